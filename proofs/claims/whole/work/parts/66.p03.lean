/-! pure part 3: texts and calendars as data; the class's objects that bear them; what the class's course says a law is worth -/
abbrev zEn : Type := (Nat × Nat × Nat × Nat × Nat × Nat × Int32) × (Nat → Int32) × (Nat → Int32) × (Nat → Nat) × (Nat → Nat) × (Nat → Nat) × (Nat → Option Nat) × (Nat → Int32) × (Nat → Int32) × (Nat → Nat) × (Nat → List (Nat × Int32))
def eT (E : zEn) : Nat := E.1.1
def eP (E : zEn) : Nat := E.1.2.1
def eC (E : zEn) : Nat := E.1.2.2.1
def eW (E : zEn) : Nat := E.1.2.2.2.1
def eS (E : zEn) : Nat := E.1.2.2.2.2.1
def eK (E : zEn) : Nat := E.1.2.2.2.2.2.1
def eD (E : zEn) : Int32 := E.1.2.2.2.2.2.2
def eTn (E : zEn) : Nat → Int32 := E.2.1
def eWn (E : zEn) : Nat → Int32 := E.2.2.1
def eHr (E : zEn) : Nat → Nat := E.2.2.2.1
def eMn (E : zEn) : Nat → Nat := E.2.2.2.2.1
def eLs (E : zEn) : Nat → Nat := E.2.2.2.2.2.1
def eCl (E : zEn) : Nat → Option Nat := E.2.2.2.2.2.2.1
def eLo (E : zEn) : Nat → Int32 := E.2.2.2.2.2.2.2.1
def eHi (E : zEn) : Nat → Int32 := E.2.2.2.2.2.2.2.2.1
def eNd (E : zEn) : Nat → Nat := E.2.2.2.2.2.2.2.2.2.1
def eRu (E : zEn) : Nat → List (Nat × Int32) := E.2.2.2.2.2.2.2.2.2.2
/-- how deep a stack stands behind a list of knots: none where a sign misses what it joins -/
def dep : List (Nat × Int32) → Nat → Option Nat
  | [], d => some d
  | kv :: L, d => if kv.1 = 0 ∨ kv.1 = 1 then dep L (d + 1) else if kv.1 = 5 then (if 1 ≤ d then dep L d else none) else if 2 ≤ d then dep L (d - 1) else none
def wfE (E : zEn) : Prop := eT E ≤ 6 ∧ eP E ≤ 12 ∧ eC E ≤ 10 ∧ eW E ≤ 5 ∧ eS E ≤ 100 ∧ eK E ≤ 64 ∧ ¬ eD E < 0 ∧ (∀ t, t < eT E → eHr E t ≤ 23) ∧ (∀ t, t < eT E → eMn E t ≤ 9) ∧ (∀ p, p < eP E → eLs E p < eT E) ∧ (∀ d t, eCl E d = some t → t < eT E ∧ d < 100) ∧ (∀ w, w < eW E → 1 ≤ eNd E w ∧ eNd E w ≤ 9) ∧ (∀ r, r < 3 → eRu E r ≠ [] → dep (eRu E r) 0 = some 1)
def oI : Option Nat → Int32 := fun o => match o with | none => -1 | some t => nI t
abbrev zKa : Type := (Nat × Nat × Int32 × Int32 × Int32 × Int32) × Option Nat × Option Nat × (Nat → Int32) × (Nat → Int32) × (Nat → Nat) × (Nat → Nat)
def kDy (K : zKa) : Nat := K.1.1
def kNx (K : zKa) : Nat := K.1.2.1
def kNu (K : zKa) : Int32 := K.1.2.2.1
def kMi (K : zKa) : Int32 := K.1.2.2.2.1
def kDa (K : zKa) : Int32 := K.1.2.2.2.2.1
def kLa (K : zKa) : Int32 := K.1.2.2.2.2.2
def kAp (K : zKa) : Option Nat := K.2.1
def kBy (K : zKa) : Option Nat := K.2.2.1
def kKn (K : zKa) : Nat → Int32 := K.2.2.2.1
def kOp (K : zKa) : Nat → Int32 := K.2.2.2.2.1
def kLs (K : zKa) : Nat → Nat := K.2.2.2.2.2.1
def kWt (K : zKa) : Nat → Nat := K.2.2.2.2.2.2
/-- how many of the works i, i+1, .. (k of them) are not done -/
def lfN (w nd : Nat → Nat) : Nat → Nat → Nat
  | 0, _ => 0
  | k + 1, i => (if w i < nd i then 1 else 0) + lfN w nd k (i + 1)
def left (E : zEn) (K : zKa) : Nat := lfN (kWt K) (eNd E) (eW E) 0
theorem lfN_le (w nd : Nat → Nat) : ∀ k i, lfN w nd k i ≤ k
  | 0, _ => Nat.le_refl 0
  | k + 1, i => by
    have := lfN_le w nd k (i + 1)
    show (if w i < nd i then 1 else 0) + lfN w nd k (i + 1) ≤ k + 1
    split <;> omega
def pTs (S : List (Nat × Nat)) (R : Nat → Nat → Option Nat) (t : Nat) : Prop := S[t]? = some (10, 18) ∧ R t 2 = some (t + 1) ∧ R t 3 = some (t + 3) ∧ R t 4 = some (t + 5) ∧ R t 6 = some (t + 7) ∧ R t 8 = some (t + 9) ∧ R t 9 = some (t + 11) ∧ R t 11 = some (t + 13) ∧ R t 12 = some (t + 15) ∧ R t 13 = some (t + 17) ∧ R t 14 = some (t + 19) ∧ R t 17 = some (t + 21) ∧ pRow S R (t + 1) 6 ∧ pRow S R (t + 3) 6 ∧ pRow S R (t + 5) 6 ∧ pRow S R (t + 7) 12 ∧ pRow S R (t + 9) 10 ∧ pRow S R (t + 11) 10 ∧ pRow S R (t + 13) 5 ∧ pRow S R (t + 15) 5 ∧ pRow S R (t + 17) 5 ∧ pRow S R (t + 19) 5 ∧ pLw S R (t + 21)
def pRu (I : Nat → Nat → Int32) (u r : Nat) (L : List (Nat × Int32)) : Prop := ∃ b, b + L.length ≤ 64 ∧ I (u + 6) r = nI b ∧ I (u + 8) r = nI (b + L.length) ∧ lsP (I (u + 2)) (I (u + 4)) b L
def pTv (I : Nat → Nat → Int32) (t : Nat) (E : zEn) : Prop := (I t 1 = nI (eT E) ∧ I t 5 = nI (eP E) ∧ I t 7 = nI (eC E) ∧ I t 10 = nI (eW E) ∧ I t 15 = nI (eS E) ∧ I t 16 = eD E ∧ I (t + 21) 6 = nI (eK E)) ∧ (∀ i, i < eT E → I (t + 2) i = eTn E i ∧ I (t + 4) i = nI (eHr E i) ∧ I (t + 6) i = nI (eMn E i)) ∧ (∀ i, i < eP E → I (t + 8) i = nI (eLs E i)) ∧ (∃ dt ct : Nat → Nat, (∀ i, i < eC E → I (t + 12) i = nI (dt i) ∧ I (t + 10) i = nI (ct i) ∧ dt i < 100 ∧ eCl E (dt i) = some (ct i)) ∧ ∀ d, (∀ i, i < eC E → dt i ≠ d) → eCl E d = none) ∧ (∀ w, w < eW E → I (t + 14) w = eWn E w ∧ I (t + 16) w = eLo E w ∧ I (t + 18) w = eHi E w ∧ I (t + 20) w = nI (eNd E w)) ∧ (∀ r, r < 3 → pRu I (t + 21) r (eRu E r))
def pSs (S : List (Nat × Nat)) (R : Nat → Nat → Option Nat) (p : Nat) : Prop := S[p]? = some (7, 15) ∧ R p 11 = some (p + 1) ∧ R p 12 = some (p + 3) ∧ R p 13 = some (p + 5) ∧ R p 14 = some (p + 7) ∧ pRow S R (p + 1) 12 ∧ pRow S R (p + 3) 6 ∧ pRow S R (p + 5) 6 ∧ pRow S R (p + 7) 5
def pSv (I : Nat → Nat → Int32) (p : Nat) (E : zEn) (K : zKa) (le : Int32) : Prop := (I p 0 = nI (kDy K) ∧ I p 1 = nI (kNx K) ∧ I p 2 = kNu K ∧ I p 3 = oI (kAp K) ∧ I p 4 = kLa K ∧ I p 5 = nI (left E K) ∧ I p 6 = kMi K ∧ I p 7 = kDa K ∧ I p 8 = le ∧ I p 9 = oI (kBy K) ∧ I p 10 = nI (eP E)) ∧ (∀ i, i < eP E → I (p + 2) i = nI (kLs K i)) ∧ (∀ i, i < 6 → I (p + 4) i = kKn K i ∧ I (p + 6) i = kOp K i) ∧ (∀ w, w < 5 → I (p + 8) w = nI (kWt K w))
/-- the course: its text, its row of hours, and its mode: (hours, drawing, claims hold, slip, unwilling) -/
abbrev zMo : Type := (Nat → Nat) × Bool × Bool × Nat × Option Nat
def pCs (S : List (Nat × Nat)) (R : Nat → Nat → Option Nat) (c t h : Nat) : Prop := S[c]? = some (0, 6) ∧ R c 0 = some t ∧ R c 1 = some h ∧ pRow S R h 6
def bI (b : Bool) : Int32 := if b then 1 else 0
def pCv (I : Nat → Nat → Int32) (c h : Nat) (E : zEn) (mo : zMo) : Prop := (∀ i, i < eT E → I (h + 1) i = nI (mo.1 i)) ∧ I c 2 = bI mo.2.1 ∧ I c 3 = bI mo.2.2.1 ∧ I c 4 = nI mo.2.2.2.1 ∧ I c 5 = oI mo.2.2.2.2
def nmS (E : zEn) (K : zKa) (hr : Nat → Nat) (t : Nat) : Nat → Int64 := fun j => if j = 0 then (nI (hr t)).toInt64 else if j = 1 then (nI (eMn E t)).toInt64 else if j = 2 then (kKn K t).toInt64 else if j = 3 then (kOp K t).toInt64 else if j = 4 then (nI (left E K)).toInt64 else if j = 5 then (kLa K).toInt64 else (nI (kDy K)).toInt64
def wS (E : zEn) (nm : Nat → Int64) (r : Nat) : Int64 := if eRu E r = [] then lMin else wfin (wrun nm (eRu E r) [])
/-! the same by no bare rfl: simp's side goals want it so -/
theorem qI1 (M : zM) (k j : Nat) (x : Int32) : (zsI M k j x).2.1 = M.2.1 := by rw [zsI_r]
theorem qI2 (M : zM) (k j : Nat) (x : Int32) : (zsI M k j x).2.2 = M.2.2 := by rw [zsI_r]
theorem qL0 (M : zM) (k j : Nat) (x : Int64) : (zsL M k j x).1 = M.1 := by rw [zsL_i]
theorem qL2 (M : zM) (k j : Nat) (x : Int64) : (zsL M k j x).2.2 = M.2.2 := by rw [zsL_r]
theorem qC1 (M : zM) (a b c d n : Nat) : (zcpM M a b c d n).2.1 = M.2.1 := by rw [zcpM_r]
theorem qC2 (M : zM) (a b c d n : Nat) : (zcpM M a b c d n).2.2 = M.2.2 := by rw [zcpM_r]
theorem qF1 (M : zM) (k : Nat) (v : Int32) (i n : Nat) : (zfl M k v i n).2.1 = M.2.1 := by rw [zfl_r]
theorem qF2 (M : zM) (k : Nat) (v : Int32) (i n : Nat) : (zfl M k v i n).2.2 = M.2.2 := by rw [zfl_r]
theorem e_getR {S : List (Nat × Nat)} {R : Nat → Nat → Option Nat} {r n i : Nat} (h : pRow S R r n) (hi : i < n) (M : zM) (hM : M.2.2 = R) : gX5_get S r (nI i) M = some (M.1 (r + 1) i) := e_get (hM ▸ h) hi
theorem e_has {S : List (Nat × Nat)} {M : zM} {u r : Nat} {L : List (Nat × Int32)} (hu : pLw S M.2.2 u) (hr : r < 3) (h : pRu M.1 u r L) : gX1_has S u (nI r) M = some (if L = [] then 0 else 1) := by
  obtain ⟨h0, -, -, r2, r3, -, -, -, -, p5, p7, -, -⟩ := hu
  obtain ⟨b, hb, h1, h2, -⟩ := h
  unfold gX1_has
  rw [zgR_ok h0 r3, zrc_ok p7.1, e_get p7 hr, Option.bind_some, zgR_ok h0 r2, zrc_ok p5.1, e_get p5 hr, Option.bind_some, h1, h2]
  cases L with
  | nil => rw [if_pos (nI_le (a := b + ([] : List (Nat × Int32)).length) (by simp) (by simp at hb; omega)), if_pos rfl]
  | cons kv L => rw [if_neg (nI_ge (by simp) (by omega)), if_neg (by simp)]
theorem e_worth1 {S : List (Nat × Nat)} {M : zM} {u r : Nat} {L : List (Nat × Int32)} {nm : Nat → Int64} (hu : pLw S M.2.2 u) (hr : r < 3) (h : pRu M.1 u r L) (hn : ∀ j, j < 7 → M.2.1 (u + 9) j = nm j) : ∃ M', gX1_worth S u (nI r) M = some (wfin (wrun nm L []), M') ∧ M'.1 = M.1 ∧ M'.2.2 = M.2.2 := by
  obtain ⟨h0, -, -, r2, r3, -, -, -, -, p5, p7, -, -⟩ := id hu
  obtain ⟨b, hb, h1, h2, h3⟩ := h
  obtain ⟨M', e1, e2, e3⟩ := e_worth21 hu L zfu b [] M rfl rfl h3 trivial (by simp; omega) hb hn (by unfold zfu; omega)
  refine ⟨M', ?_, e2, e3⟩
  unfold gX1_worth
  rw [zgR_ok h0 r3, zrc_ok p7.1, e_get p7 hr, Option.bind_some, zgR_ok h0 r2, zrc_ok p5.1, e_get p5 hr, Option.bind_some, h1, h2]
  exact e1
theorem e_worth {S : List (Nat × Nat)} {M : zM} {c t h p r i : Nat} {E : zEn} {K : zKa} {le : Int32} {hr : Nat → Nat} (hC : pCs S M.2.2 c t h) (hH : ∀ i, i < eT E → M.1 (h + 1) i = nI (hr i)) (hT : pTs S M.2.2 t) (hV : pTv M.1 t E) (hS : pSs S M.2.2 p) (hK : pSv M.1 p E K le) (hE : wfE E) (h3 : r < 3) (hi : i < eT E) :
    ∃ M', gX0_worth S c p (nI r) (nI i) M = some (wS E (nmS E K hr i) r, M') ∧ M'.1 = M.1 ∧ M'.2.2 = M.2.2 := by
  obtain ⟨c0, c1, c2, c3⟩ := hC
  have hi6 : i < 6 := Nat.lt_of_lt_of_le hi hE.1
  obtain ⟨t0, -, -, t4, -, -, -, -, -, -, -, t17, -, -, tm, -, -, -, -, -, -, -, tL⟩ := hT
  obtain ⟨l0, -⟩ := id tL
  obtain ⟨s0, -, s12, s13, -, -, sk, so, -⟩ := hS
  obtain ⟨⟨v0, -, -, -, v4, v5, -⟩, -, vk, -⟩ := hK
  obtain ⟨-, vt, -, -, -, vr⟩ := hV
  have hru := vr r h3
  unfold gX0_worth
  rw [zgR_ok c0 c1, zgR_ok t0 t17, zrc_ok l0, e_has tL h3 hru, Option.bind_some]
  by_cases hn : eRu E r = []
  · rw [if_pos hn, if_pos rfl]
    refine ⟨M, ?_, rfl, rfl⟩
    unfold wS
    rw [if_pos hn]
    rfl
  · have hs : ∀ (j : Nat) (hj : j < 7) (i : Int32) (hi : i = nI j) (M2 : zM) (x : Int64), M2.2.2 = M.2.2 → gX1_setName S (t + 21) i x M2 = some (zsL M2 (t + 21 + 9) j x) := fun j hj i hi M2 x h2 => by subst hi; exact e_setName (h2 ▸ tL) hj
    have hs0 := hs 0 (by decide) 0 rfl
    have hs1 := hs 1 (by decide) 1 rfl
    have hs2 := hs 2 (by decide) 2 rfl
    have hs3 := hs 3 (by decide) 3 rfl
    have hs4 := hs 4 (by decide) 4 rfl
    have hs5 := hs 5 (by decide) 5 rfl
    have hs6 := hs 6 (by decide) 6 rfl
    rw [if_neg hn, if_neg (by decide)]
    simp only [zgR, zgI, zrc, c0, c1, c2, c3.1, t0, t4, t17, tm.1, l0, s0, s12, s13, sk.1, so.1, e_getR c3 hi6, e_getR tm hi6, e_getR sk hi6, e_getR so hi6, hs0, hs1, hs2, hs3, hs4, hs5, hs6, qL2, qL0, if_true, Option.bind_some]
    obtain ⟨M', e1, e2, e3⟩ := e_worth1 (M := zsL (zsL (zsL (zsL (zsL (zsL (zsL M (t + 21 + 9) 0 (M.1 (h + 1) i).toInt64) (t + 21 + 9) 1 (M.1 (t + 5 + 1) i).toInt64) (t + 21 + 9) 2 (M.1 (p + 3 + 1) i).toInt64) (t + 21 + 9) 3 (M.1 (p + 5 + 1) i).toInt64) (t + 21 + 9) 4 (M.1 p 5).toInt64) (t + 21 + 9) 5 (M.1 p 4).toInt64) (t + 21 + 9) 6 (M.1 p 0).toInt64) (nm := nmS E K hr i) tL h3 hru (by
      intro j hj
      have hk := (vt i hi).2.2
      have hkk := vk i hi6
      unfold nmS
      simp only [zsL, u2, v0, v4, v5, hkk.1, hkk.2, hH i hi, hk, Nat.add_assoc, Nat.reduceAdd] at *
      rcases (show j = 0 ∨ j = 1 ∨ j = 2 ∨ j = 3 ∨ j = 4 ∨ j = 5 ∨ j = 6 by omega) with rfl | rfl | rfl | rfl | rfl | rfl | rfl <;> simp [hk, hkk.1, hkk.2])
    refine ⟨M', ?_, e2, e3⟩
    rw [e1]
    unfold wS
    rw [if_neg hn]
    rfl
