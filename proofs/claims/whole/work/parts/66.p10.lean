/-! pure part 10: a day of the class -/
theorem trnS_lt {E : zEn} {K : zKa} {mo : zMo} (hL : ∀ i, i < eP E → kLs K i < eT E) : ∀ {k x : Nat} {q : Nat × Nat}, x < eP E → trnS E K mo k x = some q → q.1 < eT E ∧ q.2 < eP E
  | 0, _, _, _, h => by cases h
  | k + 1, x, q, hx, h => by
    have hb : bhd (eP E) x < eP E := bhd_lt (by omega)
    unfold trnS at h
    cases hw : wilS E K mo (kLs K x) with
    | true =>
      rw [hw, if_pos rfl] at h
      cases h
      exact ⟨hL x hx, hb⟩
    | false =>
      rw [hw, if_neg Bool.false_ne_true] at h
      exact trnS_lt hL hb h
theorem turS_lt {E : zEn} {K : zKa} {mo : zMo} (hL : ∀ i, i < eP E → kLs K i < eT E) (hx : kNx K < eP E) : (∀ j, (turS E mo K).1 = some j → j < eT E) ∧ (turS E mo K).2.1 < eP E := by
  have hx2 : (if (misS mo (kNu K)).1 then bhd (eP E) (kNx K) else kNx K) < eP E := by
    split
    · exact bhd_lt (by omega)
    · exact hx
  unfold turS
  cases h : trnS E K mo (eP E) (if (misS mo (kNu K)).1 then bhd (eP E) (kNx K) else kNx K) with
  | none => exact ⟨fun j h2 => (by cases h2), hx2⟩
  | some q =>
    obtain ⟨a, b⟩ := trnS_lt hL hx2 h
    exact ⟨fun j h2 => by cases h2; exact a, b⟩
theorem e_dayT {S : List (Nat × Nat)} {M : zM} {c t h p : Nat} {E : zEn} {K : zKa} {le : Int32} {mo : zMo} (hC : pCs S M.2.2 c t h) (hM : pCv M.1 c h E mo) (hT : pTs S M.2.2 t) (hV : pTv M.1 t E) (hS : pSs S M.2.2 p) (hK : pSv M.1 p E K le) (hE : wfE E) (hd : p + 8 < t ∨ t + 31 < p) (hcd : p + 8 < c ∨ c < p) (hhd : p + 8 < h ∨ h + 1 < p) (hu : ∀ j, mo.2.2.2.2 = some j → j < 6) (hsl : mo.2.2.2.1 ≤ 100) (hL : ∀ i, i < eP E → kLs K i < eT E) (hx : eP E = 0 ∨ kNx K < eP E) (hW : ∀ w, w < 5 → kWt K w < 100) (wh : zWh) (hwh : wh = if eP E = 0 then (none, kNx K, kNu K, kMi K) else turS E mo K) :
    ∃ M', (if nI (eP E) ≤ 0 then gX0_dayGoes_47 S c p (-1) M else zrc S c 0 6 (zb2 (gX0_byTurns S c p M) (fun v7 M8 => gX0_dayGoes_47 S c p v7 M8))) = some M' ∧ pSv M'.1 p E (endS E mo (midK wh K) wh.1) (leS E mo (midK wh K) le wh.1) ∧ M'.2.2 = M.2.2 ∧ ∀ a b, ¬ (p ≤ a ∧ a ≤ p + 8) → M'.1 a b = M.1 a b := by
  have hP12 := hE.2.1
  by_cases h0 : eP E = 0
  · rw [if_pos h0] at hwh
    subst hwh
    rw [if_pos (by rw [h0]; decide)]
    exact e_day47 hC hM hT hV hS hK hE hd hW none (fun j h => by cases h)
  · rw [if_neg h0] at hwh
    subst hwh
    have hx2 : kNx K < eP E := hx.resolve_left h0
    rw [if_neg (nI_nle (by omega) (by omega)), zrc_ok hC.1]
    obtain ⟨M2, a1, a2, a3, a4⟩ := e_byTurns hC hM hT hV hS hK hE hd hcd hhd hu hsl hL (by omega) hx2
    rw [a1]
    simp only [zb2, Option.bind_some]
    have hM2 : pCv M2.1 c h E mo := by
      refine ⟨fun i hi => ?_, ?_, ?_, ?_, ?_⟩
      · rw [a4 (h + 1) i (by omega)]; exact hM.1 i hi
      · rw [a4 c 2 (by omega)]; exact hM.2.1
      · rw [a4 c 3 (by omega)]; exact hM.2.2.1
      · rw [a4 c 4 (by omega)]; exact hM.2.2.2.1
      · rw [a4 c 5 (by omega)]; exact hM.2.2.2.2
    obtain ⟨M', b1, b2, b3, b4⟩ := e_day47 (M := M2) (K := midK (turS E mo K) K) (le := le) (a3 ▸ hC) hM2 (a3 ▸ hT) (pTv_cg (fun a b k1 k2 => a4 a b (by omega)) hV) (a3 ▸ hS) a2 hE hd hW (turS E mo K).1 (turS_lt hL hx2).1
    exact ⟨M', b1, b2, b3.trans a3, fun a b hab => by rw [b4 a b hab, a4 a b hab]⟩
theorem e_day {S : List (Nat × Nat)} {M : zM} {c t h p : Nat} {E : zEn} {K : zKa} {le : Int32} {mo : zMo} (hC : pCs S M.2.2 c t h) (hM : pCv M.1 c h E mo) (hT : pTs S M.2.2 t) (hV : pTv M.1 t E) (hS : pSs S M.2.2 p) (hK : pSv M.1 p E K le) (hE : wfE E) (hd : p + 8 < t ∨ t + 31 < p) (hcd : p + 8 < c ∨ c < p) (hhd : p + 8 < h ∨ h + 1 < p) (hu : ∀ j, mo.2.2.2.2 = some j → j < 6) (hsl : mo.2.2.2.1 ≤ 100) (hL : ∀ i, i < eP E → kLs K i < eT E) (hx : eP E = 0 ∨ kNx K < eP E) (hW : ∀ w, w < 5 → kWt K w < 100) (hA : ∀ j, kAp K = some j → j < eT E) (hD : kDy K < 2 ^ 30) :
    ∃ M', gX0_dayGoes S c p M = some M' ∧ pSv M'.1 p E (dayS E mo K) (leS E mo (midK (whoS E mo K) K) le (whoS E mo K).1) ∧ M'.2.2 = M.2.2 ∧ ∀ a b, ¬ (p ≤ a ∧ a ≤ p + 8) → M'.1 a b = M.1 a b := by
  have s0 := hS.1
  obtain ⟨⟨v0, v1, v2, v3, v4, v5, v6, v7, v8, v9, v10⟩, vl, vk, vw⟩ := id hK
  have hT6 := hE.1
  unfold gX0_dayGoes dayS whoS
  rw [zgI_ok s0, v3]
  cases ha : kAp K with
  | some j =>
    rw [if_neg (show ¬ oI (some j) = -1 from nI_m1ne (by have := hA j ha; omega)), if_neg (show ¬ oI (some j) = -1 from nI_m1ne (by have := hA j ha; omega))]
    exact e_day47 hC hM hT hV hS hK hE hd hW (some j) (fun i h => by cases h; exact hA j ha)
  | none =>
    rw [if_pos (show oI none = -1 from rfl), zgI_ok hC.1, hM.2.2.1]
    cases hc : mo.2.2.1 with
    | false =>
      rw [if_pos (show bI false = 0 from rfl), if_pos (show oI none = -1 from rfl), zgI_ok s0, v10]
      simp only [Bool.false_eq_true, if_false]
      exact e_dayT hC hM hT hV hS hK hE hd hcd hhd hu hsl hL hx hW _ rfl
    | true =>
      rw [if_neg (show ¬ bI true = 0 by decide), zgR_ok hC.1 hC.2.1, zgI_ok s0, v0, zrc_ok hT.1, e_claimant hT hV hE (by omega), Option.bind_some]
      simp only [if_true]
      cases he : eCl E (kDy K) with
      | none =>
        rw [if_pos (show oI none = -1 from rfl), zgI_ok s0, v10]
        exact e_dayT hC hM hT hV hS hK hE hd hcd hhd hu hsl hL hx hW _ rfl
      | some j =>
        have hj : j < eT E := (hE.2.2.2.2.2.2.2.2.2.2.1 (kDy K) j he).1
        rw [if_neg (show ¬ oI (some j) = -1 from nI_m1ne (by omega))]
        exact e_day47 hC hM hT hV hS hK hE hd hW (some j) (fun i h => by cases h; exact hj)
