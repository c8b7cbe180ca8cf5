/-! pure part 4: how a day goes: the spec, and the class's small steps -/
def fnd (f : Nat → Int32) (v : Int32) : Nat → Nat → Option Nat
  | 0, _ => none
  | k + 1, i => if f i = v then some i else fnd f v k (i + 1)
theorem fnd_some {f : Nat → Int32} {v : Int32} : ∀ {k i j : Nat}, fnd f v k i = some j → i ≤ j ∧ j < i + k ∧ f j = v
  | 0, _, _, h => by simp [fnd] at h
  | k + 1, i, j, h => by
    unfold fnd at h
    by_cases h1 : f i = v
    · rw [if_pos h1] at h
      cases h
      exact ⟨Nat.le_refl _, by omega, h1⟩
    · rw [if_neg h1] at h
      obtain ⟨a, b, c⟩ := fnd_some h
      exact ⟨by omega, by omega, c⟩
theorem fnd_none {f : Nat → Int32} {v : Int32} : ∀ {k i : Nat}, fnd f v k i = none → ∀ j, i ≤ j → j < i + k → f j ≠ v
  | 0, i, _, j, h1, h2 => by omega
  | k + 1, i, h, j, h1, h2 => by
    unfold fnd at h
    by_cases h3 : f i = v
    · rw [if_pos h3] at h
      cases h
    · rw [if_neg h3] at h
      by_cases h4 : j = i
      · rw [h4]; exact h3
      · exact fnd_none h j (by omega) (by omega)
theorem fnd_cg {f g : Nat → Int32} {v : Int32} : ∀ {k i : Nat}, (∀ j, i ≤ j → j < i + k → f j = g j) → fnd f v k i = fnd g v k i
  | 0, _, _ => rfl
  | k + 1, i, h => by
    unfold fnd
    rw [h i (Nat.le_refl _) (by omega), fnd_cg (k := k) (i := i + 1) (fun j h1 h2 => h j (by omega) (by omega))]
theorem e_find_2 {S : List (Nat × Nat)} {M : zM} {r m n : Nat} {v : Int32} (h : pRow S M.2.2 r m) (hn : n ≤ m) : ∀ (k fu i : Nat), i + k = n → k < fu → gX10_find_2 S fu r (nI n) v (nI i) M = some (oI (fnd (M.1 (r + 1)) v k i)) := by
  have hm := h.2.2.2.2
  intro k
  induction k with
  | zero =>
    intro fu i hk hf
    obtain ⟨fu, rfl⟩ : ∃ f, fu = f + 1 := ⟨fu - 1, by omega⟩
    simp only [gX10_find_2]
    rw [if_pos (nI_le (by omega) (by omega))]
    rfl
  | succ k ih =>
    intro fu i hk hf
    obtain ⟨fu, rfl⟩ : ∃ f, fu = f + 1 := ⟨fu - 1, by omega⟩
    simp only [gX10_find_2, fnd]
    rw [if_neg (nI_ge (by omega) (by omega)), zrc_ok h.1, e_get h (by omega), Option.bind_some]
    by_cases h1 : M.1 (r + 1) i = v
    · rw [if_pos h1, if_pos h1]
      rfl
    · rw [if_neg h1, if_neg h1, nI_1, ih fu (i + 1) (by omega) (by omega)]
theorem e_find {S : List (Nat × Nat)} {M : zM} {r m n : Nat} {v : Int32} (h : pRow S M.2.2 r m) (hn : n ≤ m) : gX10_find S r (nI n) v M = some (oI (fnd (M.1 (r + 1)) v n 0)) := e_find_2 h hn n zfu 0 (by omega) (by have := h.2.2.2.2; unfold zfu; omega)
theorem oI_none {o : Option Nat} (h : ∀ t, o = some t → t < 2 ^ 31) : oI o = -1 ↔ o = none := by
  cases o with
  | none => simp [oI]
  | some t =>
    refine ⟨fun h2 => ?_, fun h2 => by cases h2⟩
    have h3 : nI t = -1 := h2
    have h4 := nI_pos' (h t rfl)
    rw [h3] at h4
    exact absurd h4 (by decide)
theorem nI_m1ne {t : Nat} (h : t < 2 ^ 31) : ¬ nI t = -1 := fun h3 => by
  have h4 := nI_pos' h
  rw [h3] at h4
  exact absurd h4 (by decide)
theorem e_claimant {S : List (Nat × Nat)} {M : zM} {t d : Nat} {E : zEn} (hT : pTs S M.2.2 t) (hV : pTv M.1 t E) (hE : wfE E) (hd : d < 2 ^ 31) : gX10_claimant S t (nI d) M = some (oI (eCl E d)) := by
  obtain ⟨t0, -, -, -, -, t8, t9, -, -, -, -, -, -, -, -, -, pc, pd, -⟩ := hT
  obtain ⟨⟨-, -, v7, -⟩, -, -, ⟨dt, ct, h1, h2⟩, -⟩ := hV
  have hC : eC E ≤ 10 := hE.2.2.1
  unfold gX10_claimant
  rw [zgR_ok t0 t9, zgI_ok t0, v7, e_find pd hC, Option.bind_some]
  cases hf : fnd (M.1 (t + 11 + 1)) (nI d) (eC E) 0 with
  | none =>
    rw [if_pos (show oI none = -1 from rfl)]
    have h3 : eCl E d = none := h2 d (fun i hi hd2 => by
      have h4 := fnd_none hf i (Nat.zero_le _) (by omega)
      exact h4 (by rw [show t + 11 + 1 = t + 12 by omega, (h1 i hi).1, hd2]))
    rw [h3]
    rfl
  | some j =>
    obtain ⟨-, h4, h5⟩ := fnd_some hf
    have hj : j < eC E := by omega
    obtain ⟨a1, a2, a3, a4⟩ := h1 j hj
    rw [if_neg (show ¬ oI (some j) = -1 from nI_m1ne (by omega)), zgR_ok t0 t8, zrc_ok pc.1]
    show (gX5_get S (t + 9) (nI j) M).bind _ = _
    rw [e_get pc (by omega), Option.bind_some, show t + 9 + 1 = t + 10 by omega, a2]
    have h6 : dt j = d := by
      rw [show t + 11 + 1 = t + 12 by omega, a1] at h5
      exact (nI_eq (by omega) hd).mp h5
    rw [← h6, a4]
    rfl
def bhd (P x : Nat) : Nat := if x + 1 < P then x + 1 else 0
theorem e_behind {S : List (Nat × Nat)} {M : zM} {p x P : Nat} (h0 : S[p]? = some (7, 15)) (hP : M.1 p 10 = nI P) (hx : x < 100) (hP2 : P ≤ 12) : gX7_behind S p (nI x) M = some (nI (bhd P x)) := by
  unfold gX7_behind bhd
  rw [zgI_ok h0, hP, nI_1]
  by_cases h : x + 1 < P
  · rw [if_neg (nI_ge h (by omega)), if_pos h]
  · rw [if_pos (nI_le (by omega) (by omega)), if_neg h]
    rfl
def drw (n : Int32) : Int32 := (n * (1103515245 : Int32) + (12345 : Int32)) &&& (2147483647 : Int32)
/-- by a draw or by the odds: is it a mistake, and the number behind -/
def misS (mo : zMo) (n : Int32) : Bool × Int32 :=
  if mo.2.2.2.1 = 0 then (false, n) else if mo.2.2.2.1 = 100 then (true, n) else if mo.2.1 = true then ((if nI mo.2.2.2.1 ≤ drw n / 65536 - drw n / 65536 / 100 * 100 then false else true), drw n) else ((if nI mo.2.2.2.1 < 50 then false else true), n)
theorem nI_0e {s : Nat} (h : s < 2 ^ 31) : nI s = 0 ↔ s = 0 := nI_eq (b := 0) h (by decide)
theorem e_draw {S : List (Nat × Nat)} {M : zM} {p : Nat} (s0 : S[p]? = some (7, 15)) : gX7_draw S p M = some (drw (M.1 p 2) / 65536, zsI M p 2 (drw (M.1 p 2))) := by
  unfold gX7_draw
  rw [zgI_ok s0, zpI_ok s0, zgI_ok s0, zsI_at]
  rfl
theorem mis_tail {M : zM} {c p s : Nat} (h4 : M.1 c 4 = nI s) (hcp : c ≠ p) (z : Int32) : ∃ M', zb2 (some (z / (65536 : Int32), zsI M p 2 z)) (fun v6 M7 => (if M7.1 c 4 ≤ (v6 - v6 / (100 : Int32) * (100 : Int32)) then some ((0 : Int32), M7) else some ((1 : Int32), M7))) = some (bI (if nI s ≤ z / 65536 - z / 65536 / 100 * 100 then false else true, z).1, M') ∧ M'.2 = M.2 ∧ M'.1 p 2 = (if nI s ≤ z / 65536 - z / 65536 / 100 * 100 then false else true, z).2 ∧ ∀ a b, ¬ (a = p ∧ b = 2) → M'.1 a b = M.1 a b := by
  simp only [zb2, Option.bind_some]
  rw [zsI_ne (Or.inl hcp), h4]
  refine ⟨zsI M p 2 z, ?_, rfl, zsI_at _ _ _ _, fun a b h => zsI_ne (by omega)⟩
  by_cases k3 : nI s ≤ z / 65536 - z / 65536 / 100 * 100
  · rw [if_pos k3, if_pos k3]
    rfl
  · rw [if_neg k3, if_neg k3]
    rfl
theorem e_isMistake {S : List (Nat × Nat)} {M : zM} {c p : Nat} {mo : zMo} (c0 : S[c]? = some (0, 6)) (s0 : S[p]? = some (7, 15)) (h2 : M.1 c 2 = bI mo.2.1) (h4 : M.1 c 4 = nI mo.2.2.2.1) (hs : mo.2.2.2.1 ≤ 100) (hcp : c ≠ p) :
    ∃ M', gX0_isMistake S c p M = some (bI (misS mo (M.1 p 2)).1, M') ∧ M'.2 = M.2 ∧ M'.1 p 2 = (misS mo (M.1 p 2)).2 ∧ ∀ a b, ¬ (a = p ∧ b = 2) → M'.1 a b = M.1 a b := by
  unfold gX0_isMistake misS
  simp only [zgI_ok c0, h4]
  by_cases k0 : mo.2.2.2.1 = 0
  · rw [if_pos ((nI_0e (by omega)).mpr k0), if_pos k0, if_neg (by rw [k0]; decide)]
    exact ⟨M, rfl, rfl, rfl, fun _ _ _ => rfl⟩
  rw [if_neg (fun h => k0 ((nI_0e (by omega)).mp h)), if_neg k0]
  by_cases k1 : mo.2.2.2.1 = 100
  · rw [if_pos (show nI mo.2.2.2.1 = 100 by rw [k1]; rfl), if_pos k1, if_pos (show nI mo.2.2.2.1 = 100 by rw [k1]; rfl)]
    exact ⟨M, rfl, rfl, rfl, fun _ _ _ => rfl⟩
  have k1' : ¬ nI mo.2.2.2.1 = 100 := fun h => k1 ((nI_eq (b := 100) (by omega) (by decide)).mp h)
  rw [if_neg k1', if_neg k1, h2]
  by_cases k2 : mo.2.1 = true
  · rw [if_neg (by rw [k2]; decide), if_pos k2, zrc_ok s0, e_draw s0]
    exact mis_tail h4 hcp (drw (M.1 p 2))
  · have k2' : mo.2.1 = false := by cases h : mo.2.1 with | false => rfl | true => exact absurd h k2
    rw [if_pos (by rw [k2']; rfl), if_neg k2]
    refine ⟨M, ?_, rfl, rfl, fun _ _ _ => rfl⟩
    by_cases k3 : nI mo.2.2.2.1 < 50
    · rw [if_pos k3, if_pos k3]
      rfl
    · rw [if_neg k3, if_neg k3]
      rfl
def bnd (w : Int64) (lo hi wo : Int32) : Int32 := if lg_cmp w (-9223372036854775808 : Int64) = 0 then wo else ((if (if w < hi.toInt64 then w else hi.toInt64) < lo.toInt64 then lo.toInt64 else (if w < hi.toInt64 then w else hi.toInt64))).toInt32
theorem e_bounded {S : List (Nat × Nat)} {M : zM} {w : Int64} {lo hi wo : Int32} : gX0_bounded S w lo hi wo M = some (bnd w lo hi wo) := by
  unfold gX0_bounded bnd
  split <;> rfl
def lenS (E : zEn) (K : zKa) (mo : zMo) (t : Nat) : Int32 := bnd (wS E (nmS E K mo.1 t) 0) 0 24 (24 - nI (mo.1 t))
def famS (E : zEn) (K : zKa) (mo : zMo) (t : Nat) : Int32 := bnd (wS E (nmS E K mo.1 t) 1) (-9) 9 1
def wilS (E : zEn) (K : zKa) (mo : zMo) (t : Nat) : Bool := decide (some t ≠ mo.2.2.2.2) && decide (wS E (nmS E K mo.1 t) 2 ≠ 0)
theorem e_lengthBy {S : List (Nat × Nat)} {M : zM} {c t h p i : Nat} {E : zEn} {K : zKa} {le : Int32} {mo : zMo} (hC : pCs S M.2.2 c t h) (hM : pCv M.1 c h E mo) (hT : pTs S M.2.2 t) (hV : pTv M.1 t E) (hS : pSs S M.2.2 p) (hK : pSv M.1 p E K le) (hE : wfE E) (hi : i < eT E) :
    ∃ M', gX0_lengthBy S c p (nI i) M = some (lenS E K mo i, M') ∧ M'.1 = M.1 ∧ M'.2.2 = M.2.2 := by
  obtain ⟨M', e1, e2, e3⟩ := e_worth (r := 0) hC hM.1 hT hV hS hK hE (by decide) hi
  obtain ⟨c0, c1, c2, c3⟩ := hC
  have hi6 : i < 6 := Nat.lt_of_lt_of_le hi hE.1
  refine ⟨M', ?_, e2, e3⟩
  unfold gX0_lengthBy
  rw [zrc_ok c0]
  show zb2 (gX0_worth S c p (nI 0) (nI i) M) _ = _
  rw [e1]
  simp only [zb2, Option.bind_some]
  rw [zgR_ok c0 (e3 ▸ c2), zrc_ok c3.1, e_getR c3 hi6 M' e3, Option.bind_some, e_bounded, Option.bind_some, e2, hM.1 i hi]
  rfl
/-- whose turn it is from a place on, and the place behind -/
def trnS (E : zEn) (K : zKa) (mo : zMo) : Nat → Nat → Option (Nat × Nat)
  | 0, _ => none
  | k + 1, x => if wilS E K mo (kLs K x) then some (kLs K x, bhd (eP E) x) else trnS E K mo k (bhd (eP E) x)
