/-! pure part 60: the tokens of a text; the class's side -/
def isLt (c : Nat) : Bool := decide (97 ≤ c ∧ c ≤ 122)
def isDg (c : Nat) : Bool := decide (48 ≤ c ∧ c ≤ 57)
def isBl (c : Nat) : Bool := decide (c = 32 ∨ c = 10)
def runE (p : Nat → Bool) (T : Nat → Nat) : Nat → Nat → Nat
  | 0, i => i
  | k + 1, i => if p (T i) then runE p T k (i + 1) else i
def endR (p : Nat → Bool) (T : Nat → Nat) (n i : Nat) : Nat := runE p T (n - i) i
theorem endR_s {p : Nat → Bool} {T : Nat → Nat} {n i : Nat} (h : i < n) (hp : p (T i) = true) : endR p T n i = endR p T n (i + 1) := by
  unfold endR
  obtain ⟨k, hk⟩ : ∃ k, n - i = k + 1 := ⟨n - i - 1, by omega⟩
  rw [hk, show n - (i + 1) = k by omega]
  show (if p (T i) then runE p T k (i + 1) else i) = _
  rw [if_pos hp]
theorem endR_e {p : Nat → Bool} {T : Nat → Nat} {n i : Nat} (h : i < n → p (T i) = false) : endR p T n i = i := by
  unfold endR
  by_cases q : i < n
  · obtain ⟨k, hk⟩ : ∃ k, n - i = k + 1 := ⟨n - i - 1, by omega⟩
    rw [hk]
    show (if p (T i) then runE p T k (i + 1) else i) = _
    rw [h q]
    rfl
  · rw [show n - i = 0 by omega]
    rfl
theorem runE_b {p : Nat → Bool} {T : Nat → Nat} : ∀ k i, i ≤ runE p T k i ∧ runE p T k i ≤ i + k ∧ (∀ j, i ≤ j → j < runE p T k i → p (T j) = true) ∧ (runE p T k i < i + k → p (T (runE p T k i)) = false)
  | 0, i => ⟨Nat.le_refl _, Nat.le_refl _, fun j h1 h2 => by
      have h2' : j < i := h2
      omega, fun h => by
      have h' : i < i + 0 := h
      omega⟩
  | k + 1, i => by
    unfold runE
    by_cases q : p (T i) = true
    · rw [if_pos q]
      obtain ⟨a, b, c, d⟩ := runE_b (p := p) (T := T) k (i + 1)
      refine ⟨by omega, by omega, fun j h1 h2 => ?_, fun h => d (by omega)⟩
      by_cases e : j = i
      · rw [e]; exact q
      · exact c j (by omega) h2
    · rw [if_neg q]
      refine ⟨Nat.le_refl _, by omega, fun j h1 h2 => by omega, fun _ => ?_⟩
      cases h : p (T i) with
      | true => exact absurd h q
      | false => rfl
theorem endR_b {p : Nat → Bool} {T : Nat → Nat} {n i : Nat} (h : i ≤ n) : i ≤ endR p T n i ∧ endR p T n i ≤ n ∧ (∀ j, i ≤ j → j < endR p T n i → p (T j) = true) ∧ (endR p T n i < n → p (T (endR p T n i)) = false) := by
  obtain ⟨a, b, c, d⟩ := runE_b (p := p) (T := T) (n - i) i
  exact ⟨a, by unfold endR; omega, c, fun q => d (by unfold endR at q; omega)⟩
def vS (T : Nat → Nat) (p : Nat) : Nat → Nat
  | 0 => 0
  | i + 1 => vS T p i * 32 + (T (p + i) - 96)
def cdS (T : Nat → Nat) (p L : Nat) : Nat := vS T p L * 2 ^ (30 - 5 * L)
theorem vS_lt {T : Nat → Nat} {p : Nat} : ∀ L, (∀ j, j < L → T (p + j) ≤ 122) → vS T p L < 32 ^ L
  | 0, _ => Nat.zero_lt_one
  | L + 1, h => by
    have a := vS_lt L (fun j hj => h j (by omega))
    have b := h L (by omega)
    show vS T p L * 32 + (T (p + L) - 96) < 32 ^ (L + 1)
    rw [Nat.pow_succ]
    omega
theorem cdS_lt {T : Nat → Nat} {p L : Nat} (hL : L ≤ 6) (h : ∀ j, j < L → T (p + j) ≤ 122) : cdS T p L < 2 ^ 30 := by
  have a := vS_lt L h
  unfold cdS
  rcases (show L = 0 ∨ L = 1 ∨ L = 2 ∨ L = 3 ∨ L = 4 ∨ L = 5 ∨ L = 6 by omega) with rfl | rfl | rfl | rfl | rfl | rfl | rfl
  all_goals
    simp only [Nat.reduceMul, Nat.reduceSub, Nat.reducePow] at a ⊢
    omega
theorem cd_step {v c L : Nat} (hL : L < 6) (h1 : 97 ≤ c) (h2 : c ≤ 122) : nI (v * 2 ^ (30 - 5 * L)) ||| (((nI c - 97) + 1) <<< ((25 - 5 * nI L) &&& 31)) = nI ((v * 32 + (c - 96)) * 2 ^ (30 - 5 * (L + 1))) := by
  have e : (nI c - 97) + 1 = nI (c - 96) := by
    rw [show (97 : Int32) = nI 97 from rfl, pk_sub h1, nI_1]
    congr 1
    omega
  rw [e]
  have b : c - 96 ≤ 26 := by omega
  generalize c - 96 = d at b
  rcases (show L = 0 ∨ L = 1 ∨ L = 2 ∨ L = 3 ∨ L = 4 ∨ L = 5 by omega) with rfl | rfl | rfl | rfl | rfl | rfl
  · rw [show ((25 - 5 * nI 0) &&& 31 : Int32) = 25 by decide, pk_shlN (n := d) 25 25 (by decide) (by omega), nI_or]
    congr 1
    show v * 2 ^ 30 ||| d * 2 ^ 25 = (v * 32 + d) * 2 ^ 25
    rw [Nat.mul_comm v, ← Nat.two_pow_add_eq_or_of_lt (by omega)]
    omega
  · rw [show ((25 - 5 * nI 1) &&& 31 : Int32) = 20 by decide, pk_shlN (n := d) 20 20 (by decide) (by omega), nI_or]
    congr 1
    show v * 2 ^ 25 ||| d * 2 ^ 20 = (v * 32 + d) * 2 ^ 20
    rw [Nat.mul_comm v, ← Nat.two_pow_add_eq_or_of_lt (by omega)]
    omega
  · rw [show ((25 - 5 * nI 2) &&& 31 : Int32) = 15 by decide, pk_shlN (n := d) 15 15 (by decide) (by omega), nI_or]
    congr 1
    show v * 2 ^ 20 ||| d * 2 ^ 15 = (v * 32 + d) * 2 ^ 15
    rw [Nat.mul_comm v, ← Nat.two_pow_add_eq_or_of_lt (by omega)]
    omega
  · rw [show ((25 - 5 * nI 3) &&& 31 : Int32) = 10 by decide, pk_shlN (n := d) 10 10 (by decide) (by omega), nI_or]
    congr 1
    show v * 2 ^ 15 ||| d * 2 ^ 10 = (v * 32 + d) * 2 ^ 10
    rw [Nat.mul_comm v, ← Nat.two_pow_add_eq_or_of_lt (by omega)]
    omega
  · rw [show ((25 - 5 * nI 4) &&& 31 : Int32) = 5 by decide, pk_shlN (n := d) 5 5 (by decide) (by omega), nI_or]
    congr 1
    show v * 2 ^ 10 ||| d * 2 ^ 5 = (v * 32 + d) * 2 ^ 5
    rw [Nat.mul_comm v, ← Nat.two_pow_add_eq_or_of_lt (by omega)]
    omega
  · rw [show ((25 - 5 * nI 5) &&& 31 : Int32) = 0 by decide, pk_shlN (n := d) 0 0 (by decide) (by omega), nI_or]
    congr 1
    show v * 2 ^ 5 ||| d * 2 ^ 0 = (v * 32 + d) * 2 ^ 0
    rw [Nat.mul_comm v, ← Nat.two_pow_add_eq_or_of_lt (by omega)]
    omega
def nuS (T : Nat → Nat) : Nat → Nat → Nat → Nat
  | 0, _, v => v
  | k + 1, i, v => nuS T k (i + 1) (min 1000000 (v * 10 + (T i - 48)))
def wix : Nat → Nat → Nat → Option Nat
  | 0, _, _ => none
  | k + 1, j, v => if wdC j = v then some j else wix k (j + 1) v
theorem wix_lt : ∀ {k j v w : Nat}, wix k j v = some w → w < j + k
  | 0, _, _, _, h => by cases h
  | k + 1, j, v, w, h => by
    unfold wix at h
    split at h
    · cases h; omega
    · have := wix_lt h; omega
abbrev zTk : Type := Nat × Nat × Nat × Nat
def wdT (L v p e : Nat) : zTk := if 6 < L then (1, 0, p, e) else match wix 20 0 v with | none => (2, v, p, e) | some w => if 10 ≤ w ∧ w ≤ 12 then (8, w - 7, p, e) else (3, w, p, e)
def sgT (c b p : Nat) : zTk := if c = 40 then (6, 0, p, p + 1) else if c = 41 then (7, 0, p, p + 1) else if c = 42 then (8, 14, p, p + 1) else if c = 43 then (8, 12, p, p + 1) else if c = 45 then (8, 13, p, p + 1) else if c = 47 then (8, 15, p, p + 1) else if c = 59 then (5, 0, p, p + 1) else if c = 60 then (if b = 61 then (8, 7, p, p + 2) else if b = 62 then (8, 9, p, p + 2) else (8, 6, p, p + 1)) else if c = 61 then (8, 8, p, p + 1) else if c = 62 then (if b = 61 then (8, 10, p, p + 2) else (8, 11, p, p + 1)) else (1, 0, p, p + 1)
def tkP (T : Nat → Nat) (n p : Nat) : zTk := if n ≤ p then (0, 0, p, p) else if isLt (T p) then wdT (endR isLt T n p - p) (cdS T p (endR isLt T n p - p)) p (endR isLt T n p) else if isDg (T p) then (4, nuS T (endR isDg T n p - p) p 0, p, endR isDg T n p) else sgT (T p) (if p + 1 < n then T (p + 1) else 0) p
def tokS (T : Nat → Nat) (n a : Nat) : zTk := tkP T n (endR isBl T n a)
def cTk (I : Nat → Nat → Int32) (tk : zTk) : Prop := I 4 3 = nI tk.2.2.2 ∧ I 4 4 = nI tk.2.2.1 ∧ I 4 5 = nI tk.1 ∧ ((tk.1 = 2 ∨ tk.1 = 3 ∨ tk.1 = 4 ∨ tk.1 = 8) → I 4 6 = nI tk.2.1)
def cTx (S : List (Nat × Nat)) (R : Nat → Nat → Option Nat) (I : Nat → Nat → Int32) (T : Nat → Nat) (n : Nat) : Prop := (zShp S ∧ pRf R ∧ R 4 1 = some 1) ∧ I 4 2 = nI n ∧ n ≤ 700 ∧ (∀ j, j < n → I 2 j = nI (T j) ∧ T j < 256) ∧ cWd I
theorem e_isBl {S : List (Nat × Nat)} {M : zM} {c : Nat} (h : c < 256) : gX9_isBlank S (nI c) M = some (bI (isBl c)) := by
  unfold gX9_isBlank isBl
  rw [show (32 : Int32) = nI 32 from rfl, show (10 : Int32) = nI 10 from rfl]
  simp only [nI_eq (a := c) (b := 32) (by omega) (by omega), nI_eq (a := c) (b := 10) (by omega) (by omega)]
  by_cases h1 : c = 32
  · rw [if_pos h1, decide_eq_true (Or.inl h1)]; rfl
  · rw [if_neg h1]
    by_cases h2 : c = 10
    · rw [if_pos h2, decide_eq_true (Or.inr h2)]; rfl
    · rw [if_neg h2, decide_eq_false (by omega)]; rfl
theorem e_isLt {S : List (Nat × Nat)} {M : zM} {c : Nat} (h : c < 256) : gX9_isLetter S (nI c) M = some (bI (isLt c)) := by
  unfold gX9_isLetter isLt
  rw [show (97 : Int32) = nI 97 from rfl, show (122 : Int32) = nI 122 from rfl]
  simp only [nI_ltI (a := c) (b := 97) (by omega) (by omega), nI_ltI (a := 122) (b := c) (by omega) (by omega)]
  by_cases h1 : c < 97
  · rw [if_pos h1, decide_eq_false (by omega)]; rfl
  · rw [if_neg h1]
    by_cases h2 : 122 < c
    · rw [if_pos h2, decide_eq_false (by omega)]; rfl
    · rw [if_neg h2, decide_eq_true (by omega)]; rfl
theorem e_isDg {S : List (Nat × Nat)} {M : zM} {c : Nat} (h : c < 256) : gX9_isDigit S (nI c) M = some (bI (isDg c)) := by
  unfold gX9_isDigit isDg
  rw [show (48 : Int32) = nI 48 from rfl, show (57 : Int32) = nI 57 from rfl]
  simp only [nI_ltI (a := c) (b := 48) (by omega) (by omega), nI_ltI (a := 57) (b := c) (by omega) (by omega)]
  by_cases h1 : c < 48
  · rw [if_pos h1, decide_eq_false (by omega)]; rfl
  · rw [if_neg h1]
    by_cases h2 : 57 < c
    · rw [if_pos h2, decide_eq_false (by omega)]; rfl
    · rw [if_neg h2, decide_eq_true (by omega)]; rfl
theorem cTx_cg {S : List (Nat × Nat)} {R : Nat → Nat → Option Nat} {I I' : Nat → Nat → Int32} {T : Nat → Nat} {n : Nat} (h : ∀ a b, ¬ (a = 4 ∧ 3 ≤ b) → a ≤ 6 → ¬ a = 3 → I' a b = I a b) (hx : cTx S R I T n) : cTx S R I' T n := by
  obtain ⟨a, b, c, d, e⟩ := hx
  exact ⟨a, (h 4 2 (by omega) (by omega) (by omega)).trans b, c, fun j hj => ⟨(h 2 j (by omega) (by omega) (by omega)).trans (d j hj).1, (d j hj).2⟩, fun j hj => (h 6 j (by omega) (by omega) (by omega)).trans (e j hj)⟩
def q43 (a b : Nat) : Prop := a = 4 ∧ 3 ≤ b
theorem c_blank {S : List (Nat × Nat)} {R : Nat → Nat → Option Nat} {I : Nat → Nat → Int32} {T : Nat → Nat} {n : Nat} (hx : cTx S R I T n) : ∀ (k fu i : Nat) (M : zM), i + k = n → k < fu → M.2.2 = R → (∀ a b, ¬ q43 a b → M.1 a b = I a b) → M.1 4 3 = nI i →
    ∃ M', gX9_next_0 S fu 4 M = gX9_next_41 S 4 M' ∧ M'.2.2 = R ∧ (∀ a b, ¬ q43 a b → M'.1 a b = I a b) ∧ M'.1 4 3 = nI (endR isBl T n i) := by
  obtain ⟨⟨hS, hR, h41⟩, hn, hn7, hT, hW⟩ := hx
  have P := cP hS hR
  have gB : ∀ (ρ : Type) (M' : zM) (f : Nat → Option ρ), M'.2.2 = R → zgR S M' 4 9 7 1 f = f 1 := fun ρ M' f h => zgR_of ((hS 4 (by decide)).trans rfl) h41 M' f h
  intro k
  induction k with
  | zero =>
    intro fu i M hk hfu hMR hI h3
    obtain ⟨fu, rfl⟩ : ∃ f, fu = f + 1 := ⟨fu - 1, by omega⟩
    have hc : n ≤ i := by omega
    have g2 : M.1 4 2 = nI n := (hI 4 2 (by unfold q43; omega)).trans hn
    refine ⟨M, ?_, hMR, hI, ?_⟩
    · simp (disch := first | omega | simp only [qI2, hMR]) only [gX9_next_0, ↓P, h3, g2, nI_leI, ↓if_pos hc]
    · rw [endR_e (fun h => by omega)]; exact h3
  | succ k ih =>
    intro fu i M hk hfu hMR hI h3
    obtain ⟨fu, rfl⟩ : ∃ f, fu = f + 1 := ⟨fu - 1, by omega⟩
    have hc : ¬ n ≤ i := by omega
    have g2 : M.1 4 2 = nI n := (hI 4 2 (by unfold q43; omega)).trans hn
    have gt : M.1 2 i = nI (T i) := (hI 2 i (by unfold q43; omega)).trans (hT i (by omega)).1
    have ib := e_isBl (S := S) (M := M) (hT i (by omega)).2
    cases q : isBl (T i) with
    | false =>
      rw [q] at ib
      refine ⟨M, ?_, hMR, hI, ?_⟩
      · simp (disch := first | omega | simp only [qI2, hMR]) only [gX9_next_0, ↓P, h3, g2, nI_leI, if_neg hc, ↓gB, gt, ↓bind_of ib, bIf, if_true]
      · rw [endR_e (fun _ => q)]; exact h3
    | true =>
      rw [q] at ib
      obtain ⟨M', e1, e2, e3, e4⟩ := ih fu (i + 1) (zsI M 4 3 (nI (i + 1))) (by omega) (by omega) hMR (fun a b h => by rw [zsI_ne (by unfold q43 at h; omega)]; exact hI a b h) (zsI_at _ _ _ _)
      refine ⟨M', ?_, e2, e3, ?_⟩
      · rw [← e1]
        simp (disch := first | omega | simp only [qI2, hMR]) only [gX9_next_0, ↓P, h3, g2, nI_leI, if_neg hc, ↓gB, gt, ↓bind_of ib, if_neg bIt, nI_1]
      · rw [endR_s (by omega) q]; exact e4
theorem c_number {S : List (Nat × Nat)} {R : Nat → Nat → Option Nat} {I : Nat → Nat → Int32} {T : Nat → Nat} {n : Nat} (hx : cTx S R I T n) : ∀ (k fu i v : Nat) (M : zM), i + k = n → k < fu → v ≤ 1000000 → M.2.2 = R → (∀ a b, ¬ (a = 4 ∧ (b = 3 ∨ b = 6)) → M.1 a b = I a b) → M.1 4 3 = nI i → M.1 4 6 = nI v →
    ∃ M', gX9_nextNumber_10 S fu 4 M = some M' ∧ M'.2.2 = R ∧ (∀ a b, ¬ (a = 4 ∧ (b = 3 ∨ b = 6)) → M'.1 a b = I a b) ∧ M'.1 4 3 = nI (endR isDg T n i) ∧ M'.1 4 6 = nI (nuS T (endR isDg T n i - i) i v) := by
  obtain ⟨⟨hS, hR, h41⟩, hn, hn7, hT, hW⟩ := hx
  have P := cP hS hR
  have gB : ∀ (ρ : Type) (M' : zM) (f : Nat → Option ρ), M'.2.2 = R → zgR S M' 4 9 7 1 f = f 1 := fun ρ M' f h => zgR_of ((hS 4 (by decide)).trans rfl) h41 M' f h
  intro k
  induction k with
  | zero =>
    intro fu i v M hk hfu hv hMR hI h3 h6
    obtain ⟨fu, rfl⟩ : ∃ f, fu = f + 1 := ⟨fu - 1, by omega⟩
    have hc : n ≤ i := by omega
    have g2 : M.1 4 2 = nI n := (hI 4 2 (by omega)).trans hn
    refine ⟨M, ?_, hMR, hI, ?_, ?_⟩
    · simp (disch := first | omega | simp only [qI2, hMR]) only [gX9_nextNumber_10, ↓P, h3, g2, nI_leI, ↓if_pos hc]
    · rw [endR_e (fun h => by omega)]; exact h3
    · rw [endR_e (fun h => by omega), Nat.sub_self]; exact h6
  | succ k ih =>
    intro fu i v M hk hfu hv hMR hI h3 h6
    obtain ⟨fu, rfl⟩ : ∃ f, fu = f + 1 := ⟨fu - 1, by omega⟩
    have hc : ¬ n ≤ i := by omega
    have g2 : M.1 4 2 = nI n := (hI 4 2 (by omega)).trans hn
    have gt : M.1 2 i = nI (T i) := (hI 2 i (by omega)).trans (hT i (by omega)).1
    have t256 := (hT i (by omega)).2
    have ib := e_isDg (S := S) (M := M) t256
    cases q : isDg (T i) with
    | false =>
      rw [q] at ib
      refine ⟨M, ?_, hMR, hI, ?_, ?_⟩
      · simp (disch := first | omega | simp only [qI2, hMR]) only [gX9_nextNumber_10, ↓P, h3, g2, nI_leI, if_neg hc, ↓gB, gt, ↓bind_of ib, bIf, if_true]
      · rw [endR_e (fun _ => q)]; exact h3
      · rw [endR_e (fun _ => q), Nat.sub_self]; exact h6
    | true =>
      rw [q] at ib
      have dg : 48 ≤ T i ∧ T i ≤ 57 := of_decide_eq_true q
      have ev : (if ((nI v * 10 + nI (T i)) - 48) < 1000000 then ((nI v * 10 + nI (T i)) - 48) else 1000000) = nI (min 1000000 (v * 10 + (T i - 48))) := by
        rw [show (10 : Int32) = nI 10 from rfl, show (48 : Int32) = nI 48 from rfl, show (1000000 : Int32) = nI 1000000 from rfl, pk_mul, nI_add, pk_sub (by omega)]
        by_cases h : v * 10 + T i - 48 < 1000000
        · rw [if_pos (nI_lt h (by omega))]; congr 1; omega
        · rw [if_neg (nI_nlt (by omega) (by omega))]; congr 1; omega
      obtain ⟨M', e1, e2, e3, e4, e5⟩ := ih fu (i + 1) (min 1000000 (v * 10 + (T i - 48))) (zsI (zsI M 4 6 (nI (min 1000000 (v * 10 + (T i - 48))))) 4 3 (nI (i + 1))) (by omega) (by omega) (by omega) hMR (fun a b h => by rw [zsI_ne (by omega), zsI_ne (by omega)]; exact hI a b h) (zsI_at _ _ _ _) (by rw [zsI_ne (by omega), zsI_at])
      have eb := (endR_b (p := isDg) (T := T) (n := n) (i := i + 1) (by omega)).1
      refine ⟨M', ?_, e2, e3, ?_, ?_⟩
      · rw [← e1]
        simp (disch := first | omega | simp only [qI2, hMR]) only [gX9_nextNumber_10, ↓P, h3, h6, g2, nI_leI, if_neg hc, ↓gB, gt, ↓bind_of ib, if_neg bIt, ev, zsI_ne, nI_1]
      · rw [endR_s (by omega) q]; exact e4
      · rw [endR_s (by omega) q, show endR isDg T n (i + 1) - i = (endR isDg T n (i + 1) - (i + 1)) + 1 by omega]
        exact e5
