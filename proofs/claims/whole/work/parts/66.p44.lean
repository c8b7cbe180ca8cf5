/-! pure part 44: sets of hours as bits; what the notes tell -/
def bs (p : Nat → Bool) : Nat → Nat
  | 0 => 0
  | k + 1 => bs p k + (if p k then 2 ^ k else 0)
theorem bs_lt (p : Nat → Bool) : ∀ k, bs p k < 2 ^ k
  | 0 => Nat.lt_succ_self 0
  | k + 1 => by
    have := bs_lt p k
    show bs p k + (if p k then 2 ^ k else 0) < 2 ^ (k + 1)
    rw [Nat.pow_succ]
    split <;> omega
theorem add_or {x k : Nat} (h : x < 2 ^ k) : x + 2 ^ k = x ||| 2 ^ k := by
  have := Nat.two_pow_add_eq_or_of_lt h 1
  rw [Nat.mul_one] at this
  rw [Nat.add_comm, this, Nat.or_comm]
theorem bs_tb (p : Nat → Bool) : ∀ k i, (bs p k).testBit i = (decide (i < k) && p i)
  | 0, i => by
    show Nat.testBit 0 i = _
    rw [Nat.zero_testBit, decide_eq_false (Nat.not_lt_zero i), Bool.false_and]
  | k + 1, i => by
    show (bs p k + (if p k then 2 ^ k else 0)).testBit i = _
    cases hp : p k with
    | true =>
      rw [if_pos rfl, add_or (bs_lt p k), Nat.testBit_or, bs_tb p k i, Nat.testBit_two_pow]
      by_cases h : i = k
      · subst h
        rw [decide_eq_true (p := i = i) rfl, decide_eq_true (show i < i + 1 by omega), hp, Bool.or_true, Bool.true_and]
      · rw [decide_eq_false (p := k = i) (fun e => h e.symm), Bool.or_false]
        by_cases h2 : i < k
        · rw [decide_eq_true h2, decide_eq_true (show i < k + 1 by omega)]
        · rw [decide_eq_false h2, decide_eq_false (show ¬ i < k + 1 by omega)]
    | false =>
      rw [if_neg Bool.false_ne_true, Nat.add_zero, bs_tb p k i]
      by_cases h : i = k
      · subst h
        rw [hp, Bool.and_false, Bool.and_false]
      · by_cases h2 : i < k
        · rw [decide_eq_true h2, decide_eq_true (show i < k + 1 by omega)]
        · rw [decide_eq_false h2, decide_eq_false (show ¬ i < k + 1 by omega)]
theorem bs_cg {p q : Nat → Bool} : ∀ k, (∀ i, i < k → p i = q i) → bs p k = bs q k
  | 0, _ => rfl
  | k + 1, h => by
    show bs p k + _ = bs q k + _
    rw [bs_cg k (fun i hi => h i (by omega)), h k (by omega)]
theorem nI_or (a b : Nat) : nI a ||| nI b = nI (a ||| b) := by
  apply Int32.toBitVec_inj.mp
  apply BitVec.eq_of_getLsbD_eq
  intro i hi
  show (BitVec.ofNat 32 a ||| BitVec.ofNat 32 b).getLsbD i = (BitVec.ofNat 32 (a ||| b)).getLsbD i
  rw [BitVec.getLsbD_or, BitVec.getLsbD_ofNat, BitVec.getLsbD_ofNat, BitVec.getLsbD_ofNat, Nat.testBit_or]
  cases decide (i < 32) <;> rfl
theorem shl24 : ∀ h, h < 24 → (1 : Int32) <<< (nI h &&& 31) = nI (2 ^ h) := by decide +kernel
theorem or24 {p : Nat → Bool} {h : Nat} (hh : h < 24) (hp : p h = true) : nI (bs p h) ||| ((1 : Int32) <<< (nI h &&& 31)) = nI (bs p (h + 1)) := by
  rw [shl24 h hh, nI_or, ← add_or (bs_lt p h)]
  show _ = nI (bs p h + (if p h then 2 ^ h else 0))
  rw [hp]
  rfl
theorem or24N {p : Nat → Bool} {h : Nat} (hp : p h = false) : nI (bs p h) ||| (0 : Int32) = nI (bs p (h + 1)) := by
  rw [show (0 : Int32) = nI 0 from rfl, nI_or, Nat.or_zero]
  show _ = nI (bs p h + (if p h then 2 ^ h else 0))
  rw [hp]
  rfl
def clr (q : Nat → Bool) (h : Nat) : Nat → Bool := fun i => q i && !decide (i = h)
theorem clr24 {q : Nat → Bool} {h : Nat} (hh : h < 24) : nI (bs q 24) &&& (((1 : Int32) <<< (nI h &&& 31)) ^^^ (-1 : Int32)) = nI (bs (clr q h) 24) := by
  rw [shl24 h hh]
  apply Int32.toBitVec_inj.mp
  apply BitVec.eq_of_getLsbD_eq
  intro i hi
  show (BitVec.ofNat 32 (bs q 24) &&& (BitVec.ofNat 32 (2 ^ h) ^^^ BitVec.allOnes 32)).getLsbD i = (BitVec.ofNat 32 (bs (clr q h) 24)).getLsbD i
  rw [BitVec.getLsbD_and, BitVec.getLsbD_xor, BitVec.getLsbD_ofNat, BitVec.getLsbD_ofNat, BitVec.getLsbD_ofNat, BitVec.getLsbD_allOnes, bs_tb, bs_tb, Nat.testBit_two_pow, decide_eq_true hi]
  unfold clr
  by_cases e : i = h
  · subst e
    rw [decide_eq_true (p := i = i) rfl]
    cases decide (i < 24) <;> cases q i <;> rfl
  · rw [decide_eq_false e, decide_eq_false (p := h = i) (fun k => e k.symm)]
    cases decide (i < 24) <;> cases q i <;> rfl
theorem full24 : (16777215 : Int32) = nI (bs (fun _ => true) 24) := by decide
theorem bit24 : ∀ t, t < 24 → ∀ m, m < 2 ^ 24 → ((nI m >>> (nI t &&& 31)) &&& 1 = if m.testBit t then 1 else 0) := by
  intro t ht m hm
  have hk : ∀ t, t < 24 → ((nI t &&& 31).toBitVec.smod 32).toNat = t := by decide +kernel
  have h1 : nI m >>> (nI t &&& 31) = nI (m / 2 ^ t) := pk_shrN (by omega) (nI t &&& 31) t (hk t ht)
  have h2 : m / 2 ^ t ≤ m := Nat.div_le_self _ _
  rw [h1, pk_andN (m := 1) (by omega) 1 (by decide), Nat.pow_one]
  rw [Nat.testBit_eq_decide_div_mod_eq]
  rcases Nat.mod_two_eq_zero_or_one (m / 2 ^ t) with h | h <;> rw [h] <;> rfl
theorem bsb {p : Nat → Bool} {h : Nat} (hh : h < 24) : ((nI (bs p 24) >>> (nI h &&& 31)) &&& 1 = if p h then 1 else 0) := by
  rw [bit24 h hh _ (bs_lt p 24), bs_tb, decide_eq_true hh, Bool.true_and]
/-! what the notes tell -/
def nK (no : zNot) (j : Nat) : Nat := no.2.2.1 j
def nA (no : zNot) (j : Nat) : Nat := no.2.2.2.1 j
def nL (no : zNot) (j : Nat) : Nat := no.2.2.2.2 j
def upB (s : Nat → Bool) (j : Nat) : Nat → Bool := fun i => if i = j then true else s i
def skS (no : zNot) : Nat → (Nat → Bool) → (Nat → Bool)
  | 0, s => s
  | j + 1, s => skS no j (if nK no j = 2 then (if s j then s else upB s (nA no j)) else s)
def skF (no : zNot) : Nat → Bool := skS no (byN no) (fun _ => false)
def tlS (no : zNot) (j : Nat) : Bool := if nK no j = 2 then false else if skF no j then false else true
def lgS (no : zNot) : Nat → Nat → Nat → Nat
  | 0, _, x => x
  | k + 1, j, x => lgS no k (j + 1) (if tlS no j then (if x < nA no j then nA no j else x) else x)
def lgF (no : zNot) : Nat := lgS no (byN no) 0 0
def moH (E : zEn) (tr h : Nat) : zMo := (fun t => if t = tr then h else eHr E t, false, true, eS E, none)
def lbS (E : zEn) (tr h d : Nat) : Int32 := kLa (dysS E (moH E tr h) d (K0 E))
def ftS (E : zEn) (no : zNot) (tr j h : Nat) : Bool := if lbS E tr h (nA no j) < nI (nL no j) then !decide (nK no j = 0) else decide (nK no j = 0)
def allB (f : Nat → Bool) : Nat → Nat → Bool
  | 0, _ => true
  | k + 1, i => f i && allB f k (i + 1)
theorem allB_iff {f : Nat → Bool} : ∀ k i, allB f k i = true ↔ ∀ j, i ≤ j → j < i + k → f j = true
  | 0, i => ⟨fun _ j h1 h2 => by omega, fun _ => rfl⟩
  | k + 1, i => by
    show (f i && allB f k (i + 1)) = true ↔ _
    rw [Bool.and_eq_true, allB_iff k (i + 1)]
    constructor
    · rintro ⟨h1, h2⟩ j h3 h4
      by_cases q : j = i
      · rw [q]; exact h1
      · exact h2 j (by omega) (by omega)
    · intro h
      exact ⟨h i (Nat.le_refl _) (by omega), fun j h1 h2 => h j (by omega) (by omega)⟩
def hrP (E : zEn) (no : zNot) (tr h : Nat) : Bool := allB (fun j => !tlS no j || ftS E no tr j h) (byN no) 0
def hrS (E : zEn) (no : zNot) (tr : Nat) : Nat := bs (hrP E no tr) 24
theorem lgS_ge (no : zNot) : ∀ k j x, x ≤ lgS no k j x ∧ ∀ i, j ≤ i → i < j + k → tlS no i = true → nA no i ≤ lgS no k j x
  | 0, j, x => ⟨Nat.le_refl _, fun i h1 h2 => by omega⟩
  | k + 1, j, x => by
    obtain ⟨a, b⟩ := lgS_ge no k (j + 1) (if tlS no j then (if x < nA no j then nA no j else x) else x)
    have hx : x ≤ (if tlS no j then (if x < nA no j then nA no j else x) else x) := by
      split
      · split <;> omega
      · omega
    refine ⟨Nat.le_trans hx a, fun i h1 h2 h3 => ?_⟩
    by_cases q : i = j
    · subst q
      refine Nat.le_trans ?_ a
      rw [if_pos h3]
      split <;> omega
    · exact b i (by omega) (by omega) h3
theorem lgS_60 {no : zNot} (h : noW no) : ∀ k j x, j + k ≤ no.1 → x ≤ 60 → lgS no k j x ≤ 60
  | 0, j, x, _, hx => hx
  | k + 1, j, x, hk, hx => by
    refine lgS_60 h k (j + 1) _ (by omega) ?_
    split
    · rename_i ht
      have h2 : nK no j ≠ 2 := by
        intro q
        unfold tlS at ht
        rw [if_pos q] at ht
        cases ht
      have := ((h.2.2 j (by omega)).2.2.1 h2).2
      unfold nA
      split
      · exact this
      · exact hx
    · exact hx
