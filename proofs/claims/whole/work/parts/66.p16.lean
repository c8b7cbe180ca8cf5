/-! pure part 16: whose turn it is, the model -/
theorem fr.cI {W : Nat → Nat → Prop} {M M' : zM} (h : fr W M M') (a b : Nat) (hw : ¬ W a b) : M'.1 a b = M.1 a b := h.2 a b hw
theorem mW0_W {s a b : Nat} (h : mW0 a b) : mW s a b := Or.inl h
theorem pME_fr {M M' : zM} {s : Nat} {E : zEn} (h : fr (mW s) M M') (hV : pME M.1 E) : pME M'.1 E := pME_cg (fun a b h1 h2 => h.2 a b (by unfold mW mS; omega)) hV
theorem pMo_fr {M M' : zM} {s : Nat} {E : zEn} {mo : zMo} (h : fr (mW s) M M') (hV : pMo M.1 E mo) : pMo M'.1 E mo := pMo_cg (fun b h1 h2 => h.2 306 b (by unfold mW mS; omega)) hV
theorem pMk_f0 {M M' : zM} {s : Nat} {E : zEn} {K : zKa} (hP : eP E ≤ 12) (h : fr mW0 M M') (hV : pMk M.1 s E K) : pMk M'.1 s E K := pMk_cg hP (fun a b h1 => h.2 a b (by unfold mS at h1; unfold mW0; omega)) hV
theorem pMk_fo {M M' : zM} {s s' : Nat} {E : zEn} {K : zKa} (hP : eP E ≤ 12) (hs : s' ≠ s) (h : fr (mW s) M M') (hV : pMk M.1 s' E K) : pMk M'.1 s' E K := pMk_cg hP (fun a b h1 => h.2 a b (by unfold mS at h1; unfold mW mS; omega)) hV
theorem e_wills18 {S : List (Nat × Nat)} {M : zM} {E : zEn} {K : zKa} {mo : zMo} {s t : Nat} (hS : pMs S M.2.2) (hE : pME M.1 E) (hm : pMo M.1 E mo) (hK : pMk M.1 s E K) (wE : wfE E) (hW : ∀ w, w < 5 → kWt K w < 100) (hs : s < 30) (ht : t < eT E) :
    ∃ M', gX12_wills_18 S 306 (nI s) (nI t) M = some (if wS E (nmS E K mo.1 t) 2 = 0 then 0 else 1, M') ∧ fr mW0 M M' := by
  obtain ⟨M1, a1, a2, a3, a4⟩ := e_calls hS hE hm hK wE hW hs ht
  have hS1 : pMs S M1.2.2 := a3 ▸ hS
  have hr : pRuM M1.1 2 (eRu E 2) := a2 ▸ hE.2.2.2.2.2 2 (by decide)
  have hl : gX12_hasLaw S 306 2 M1 = some (if eRu E 2 = [] then 0 else 1) := e_hasLaw (r := 2) hS1 (by decide) hr
  by_cases h0 : eRu E 2 = []
  · refine ⟨M1, ?_, a3, fun a b _ => by rw [a2]⟩
    have hw : wS E (nmS E K mo.1 t) 2 = lMin := if_pos h0
    simp only [gX12_wills_18, zrc, mF hS, a1, hl, h0, if_true, Option.bind_some, hw]
    rfl
  · obtain ⟨M', e1, e2, e3, e4⟩ := e_goes (r := 2) hS1 (by decide) hr a4 (wE.2.2.2.2.2.2.2.2.2.2.2.2 2 (by decide) h0)
    have e1' : gX12_goes S 306 2 M1 = some (match wrun (nmS E K mo.1 t) (eRu E 2) [] with | some _ => 1 | none => 0, M') := e1
    have hS' : pMs S M'.2.2 := e2 ▸ hS1
    refine ⟨M', ?_, e2.trans a3, fun a b h => by rw [e3 a b h, a2]⟩
    have hw : wS E (nmS E K mo.1 t) 2 = wfin (wrun (nmS E K mo.1 t) (eRu E 2) []) := if_neg h0
    simp only [gX12_wills_18, zrc, zb2, mF hS, a1, hl, if_neg h0, e1', if_true, Option.bind_some]
    rw [if_neg (by decide), hw]
    cases hx : wrun (nmS E K mo.1 t) (eRu E 2) [] with
    | none =>
      rw [if_pos rfl]
      rfl
    | some x =>
      obtain ⟨x1, x2⟩ := e4 x hx
      rw [if_neg (show ¬ (1 : Int32) = 0 by decide)]
      have zl : ∀ (f : Int64 → Option (Int32 × zM)), zaL S M' 323 0 f = f (M'.2.1 323 0) := fun f => zaL_ok (i := 0) (pMg hS' 31 323 101 64 (by decide)).2 (by decide) (by decide)
      simp only [zgR, mF hS', zl, x2, if_true, cmp0]
      split <;> rfl
theorem wilS_eq {E : zEn} {K : zKa} {mo : zMo} {t : Nat} : wilS E K mo t = if some t = mo.2.2.2.2 then false else if wS E (nmS E K mo.1 t) 2 = 0 then false else true := by
  unfold wilS
  by_cases h : some t = mo.2.2.2.2
  · rw [if_pos h, decide_eq_false (by simpa using h), Bool.false_and]
  · rw [if_neg h, decide_eq_true (p := some t ≠ mo.2.2.2.2) h, Bool.true_and]
    by_cases h2 : wS E (nmS E K mo.1 t) 2 = 0
    · rw [if_pos h2, decide_eq_false (by simpa using h2)]
    · rw [if_neg h2, decide_eq_true (p := wS E (nmS E K mo.1 t) 2 ≠ 0) h2]
theorem e_wills {S : List (Nat × Nat)} {M : zM} {E : zEn} {K : zKa} {mo : zMo} {s t : Nat} (hS : pMs S M.2.2) (hE : pME M.1 E) (hm : pMo M.1 E mo) (hK : pMk M.1 s E K) (wE : wfE E) (hW : ∀ w, w < 5 → kWt K w < 100) (hs : s < 30) (ht : t < eT E) :
    ∃ M', gX12_wills S 306 (nI s) (nI t) M = some (bI (wilS E K mo t), M') ∧ fr mW0 M M' := by
  obtain ⟨M', e1, e2⟩ := e_wills18 hS hE hm hK wE hW hs ht
  have hu := hm.2.1 t ht
  rw [wilS_eq]
  have e1' : gX12_wills_18 S 306 (nI s) (nI t) M = some (bI (if wS E (nmS E K mo.1 t) 2 = 0 then false else true), M') := by
    rw [e1]
    split <;> rfl
  by_cases h2 : M.1 306 47 = 2
  · by_cases h3 : nI t = M.1 306 48
    · refine ⟨M, ?_, fr.refl⟩
      rw [if_pos (hu.mp ⟨h2, h3⟩).symm]
      simp only [gX12_wills, zgI, mF hS, h2, if_true, if_pos h3]
      rfl
    · refine ⟨M', ?_, e2⟩
      rw [if_neg (fun h => h3 (hu.mpr h.symm).2)]
      simp only [gX12_wills, zgI, mF hS, h2, if_true, if_neg h3]
      exact e1'
  · refine ⟨M', ?_, e2⟩
    rw [if_neg (fun h => h2 (hu.mpr h.symm).1)]
    simp only [gX12_wills, zgI, mF hS, if_neg h2, if_true]
    exact e1'
theorem drw_eq (v : Int32) : (v * (1103515245 : Int32) + (12345 : Int32)) &&& (2147483647 : Int32) = drw v := rfl
theorem shr16 {y : Int32} : (y &&& (2147483647 : Int32)) >>> ((16 : Int32) &&& 31) = (y &&& (2147483647 : Int32)) / 65536 := by
  obtain ⟨j, hj, hy⟩ := pk_andE y (m := 2147483647) 31 (by decide)
  rw [hy, pk_shrN hj ((16 : Int32) &&& 31) 16 (by decide), show (65536 : Int32) = nI 65536 from rfl, pk_div hj (by decide) (by decide)]
theorem drw_shr (v : Int32) : drw v >>> ((16 : Int32) &&& 31) = drw v / 65536 := shr16
theorem i32_50 {s : Nat} (h : s = 0 ∨ s = 100) : (if nI s < 50 then ((0 : Int32)) else 1) = (if s = 0 then 0 else 1) := by
  rcases h with rfl | rfl <;> rfl
theorem e_mistakeM {S : List (Nat × Nat)} {M : zM} {E : zEn} {K : zKa} {mo : zMo} {s : Nat} (hS : pMs S M.2.2) (hE : pME M.1 E) (hm : pMo M.1 E mo) (hK : pMk M.1 s E K) (wE : wfE E) (hs : s < 30) :
    ∃ M', gX12_isMistake S 306 (nI s) (bI mo.2.1) M = some (bI (misS mo (kNu K)).1, M') ∧ M'.2 = M.2 ∧ M'.1 325 s = (misS mo (kNu K)).2 ∧ ∀ a b, ¬ (a = 325 ∧ b = s) → M'.1 a b = M.1 a b := by
  have h4 := hm.2.2.2
  have hS4 := hE.1.2.2.2.2.1
  have hk := hK.1.2.1
  have hs100 := wE.2.2.2.2.1
  have z4 : ∀ (ρ : Type) (f : Int32 → Option ρ), zaI S M 100 308 (4 : Int32) f = f (nI (eS E)) := fun ρ f => by rw [← hS4]; exact zaI_ok (i := 4) (pMg hS 3 308 100 14 (by decide)).2 (by decide) (by decide)
  unfold misS
  by_cases h5 : M.1 306 47 = 5
  · rw [if_pos h5] at h4
    refine ⟨M, ?_, rfl, by rw [if_pos h4]; exact hk, fun _ _ _ => rfl⟩
    simp only [gX12_isMistake, zgI, mF hS, h5, if_true, h4]
    rw [if_neg (by decide)]
    rfl
  rw [if_neg h5] at h4
  by_cases h1 : M.1 306 47 = 1
  · rw [if_pos h1] at h4
    refine ⟨M, ?_, rfl, by rw [h4]; exact hk, fun _ _ _ => rfl⟩
    simp only [gX12_isMistake, zgI, mF hS, h1, if_true, h4]
    rw [if_neg (by decide)]
    rfl
  rw [if_neg h1] at h4
  rw [h4]
  have start : gX12_isMistake S 306 (nI s) (bI mo.2.1) M = (if bI mo.2.1 = 0 then (if nI (eS E) < (50 : Int32) then some ((0 : Int32), M) else some ((1 : Int32), M)) else (if nI (eS E) = 0 then (if nI (eS E) < (50 : Int32) then some ((0 : Int32), M) else some ((1 : Int32), M)) else (if nI (eS E) = (100 : Int32) then (if nI (eS E) < (50 : Int32) then some ((0 : Int32), M) else some ((1 : Int32), M)) else (if nI (eS E) ≤ drw (kNu K) / 65536 - drw (kNu K) / 65536 / (100 : Int32) * (100 : Int32) then some ((0 : Int32), zsI M 325 s (drw (kNu K))) else some ((1 : Int32), zsI M 325 s (drw (kNu K))))))) := by
    simp (disch := omega) only [gX12_isMistake, zgI, zgR, mF hS, if_neg h5, if_neg h1, z4, mG hS, qI2, hk, drw_eq, zsI_at, drw_shr, if_true]
  rw [start]
  by_cases s0 : eS E = 0
  · refine ⟨M, ?_, rfl, by rw [if_pos s0]; exact hk, fun _ _ _ => rfl⟩
    rw [if_pos s0, s0, if_pos (show nI 0 < 50 by decide), if_pos (show nI 0 = 0 from rfl)]
    split <;> rfl
  by_cases s1 : eS E = 100
  · refine ⟨M, ?_, rfl, by rw [if_neg s0, if_pos s1]; exact hk, fun _ _ _ => rfl⟩
    rw [if_neg s0, if_pos s1, s1, if_neg (show ¬ nI 100 < 50 by decide), if_neg (show ¬ nI 100 = 0 by decide), if_pos (show nI 100 = 100 from rfl)]
    split <;> rfl
  have n0 : ¬ nI (eS E) = 0 := fun h => s0 ((nI_0e (by omega)).mp h)
  have n1 : ¬ nI (eS E) = 100 := fun h => s1 ((nI_eq (b := 100) (by omega) (by decide)).mp h)
  rw [if_neg s0, if_neg s1, if_neg n0, if_neg n1]
  cases hd : mo.2.1 with
  | false =>
    refine ⟨M, ?_, rfl, hk, fun _ _ _ => rfl⟩
    rw [if_pos (show bI false = 0 from rfl)]
    simp only [Bool.false_eq_true, if_false]
    split <;> rfl
  | true =>
    rw [if_neg (show ¬ bI true = 0 by decide)]
    simp only [if_true]
    refine ⟨zsI M 325 s (drw (kNu K)), ?_, rfl, zsI_at _ _ _ _, fun a b h => zsI_ne (by omega)⟩
    split <;> rfl
theorem bhd_mod {P m : Nat} (hP : 0 < P) : bhd P (m % P) = (m + 1) % P := by
  have h1 := Nat.mod_lt m hP
  have h2 : (m + 1) % P = (m % P + 1) % P := by rw [Nat.add_mod m 1 P, Nat.add_mod (m % P) 1 P, Nat.mod_mod]
  unfold bhd
  rw [h2]
  by_cases h : m % P + 1 < P
  · rw [if_pos h, Nat.mod_eq_of_lt h]
  · rw [if_neg h, show m % P + 1 = P by omega, Nat.mod_self]
theorem e_byTurn51 {S : List (Nat × Nat)} {R : Nat → Nat → Option Nat} {I : Nat → Nat → Int32} {E : zEn} {K : zKa} {mo : zMo} {s : Nat} (hS : pMs S R) (hE : pME I E) (hm : pMo I E mo) (hK : pMk I s E K) (wE : wfE E) (hW : ∀ w, w < 5 → kWt K w < 100) (hs : s < 30) (hL : ∀ i, i < eP E → kLs K i < eT E) (hP : 0 < eP E) (hx : kNx K < eP E) :
    ∀ (k fu i : Nat) (M : zM), M.2.2 = R → (∀ a b, ¬ mW0 a b → M.1 a b = I a b) → i + k = eP E → k < fu →
    ∃ M', gX12_byTurn_51 S fu 306 (nI s) (nI (eP E)) (nI i) M = some (oI ((trnS E K mo k ((kNx K + i) % eP E)).map (fun q => q.1)), M') ∧ M'.2.2 = R ∧ (∀ a b, ¬ (mW0 a b ∨ (a = 326 ∧ b = s)) → M'.1 a b = I a b) ∧ M'.1 326 s = (match trnS E K mo k ((kNx K + i) % eP E) with | some q => nI q.2 | none => nI (kNx K)) := by
  have hP12 := wE.2.1
  have hn := hK.1.2.2.1
  intro k
  induction k with
  | zero =>
    intro fu i M hR hI hk hf
    obtain ⟨fu, rfl⟩ : ∃ f, fu = f + 1 := ⟨fu - 1, by omega⟩
    refine ⟨M, ?_, hR, fun a b h => hI a b (fun h2 => h (Or.inl h2)), ?_⟩
    · simp only [gX12_byTurn_51]
      rw [if_pos (nI_le (by omega) (by omega))]
      rfl
    · rw [hI _ _ (by unfold mW0; omega)]
      exact hn
  | succ k ih =>
    intro fu i M hR hI hk hf
    obtain ⟨fu, rfl⟩ : ∃ f, fu = f + 1 := ⟨fu - 1, by omega⟩
    have hS' : pMs S M.2.2 := hR ▸ hS
    have hlt := Nat.mod_lt (kNx K + i) hP
    have g1 : M.1 326 s = nI (kNx K) := by rw [hI _ _ (by unfold mW0; omega)]; exact hn
    have g2 : M.1 334 (12 * s + (kNx K + i) % eP E) = nI (kLs K ((kNx K + i) % eP E)) := by rw [hI _ _ (by unfold mW0; omega)]; exact hK.2.2.1 _ hlt
    have h0 : ¬ nI (eP E) = 0 := fun h => by have := (nI_0e (by omega)).mp h; omega
    have hfr : fr mW0 M M := fr.refl
    obtain ⟨M2, w1, w2⟩ := e_wills (M := M) (K := K) (mo := mo) (s := s) hS' (pME_cg (fun a b h1 h2 => hI a b (by unfold mW0; omega)) hE) (pMo_cg (fun b h1 h2 => hI 306 b (by unfold mW0; omega)) hm) (pMk_cg hP12 (fun a b h1 => hI a b (by unfold mS at h1; unfold mW0; omega)) hK) wE hW hs (hL _ hlt)
    have hS2 : pMs S M2.2.2 := w2.1 ▸ hS'
    have hI2 : ∀ a b, ¬ mW0 a b → M2.1 a b = I a b := fun a b h => (w2.2 a b h).trans (hI a b h)
    have step : gX12_byTurn_51 S (fu + 1) 306 (nI s) (nI (eP E)) (nI i) M = (if bI (wilS E K mo (kLs K ((kNx K + i) % eP E))) = 0 then gX12_byTurn_51 S fu 306 (nI s) (nI (eP E)) (nI (i + 1)) M2 else some (nI (kLs K ((kNx K + i) % eP E)), zsI M2 326 s (nI (((kNx K + i) % eP E + 1) % eP E)))) := by
      have hb : ¬ eP E ≤ i := by omega
      have g3 : (zsI M2 326 s (nI (((kNx K + i) % eP E + 1) % eP E))).1 334 (12 * s + (kNx K + i) % eP E) = nI (kLs K ((kNx K + i) % eP E)) := by
        rw [zsI_ne (by omega), w2.2 _ _ (by unfold mW0; omega)]
        exact g2
      simp (disch := omega) only [gX12_byTurn_51, zgR, zrc, zb2, mF hS', mG hS', nI_leI, if_neg hb, if_neg h0, g1, nI_add, pk_rem, li12, pk_mul, g2, w1, Option.bind_some, if_true, nI_1, mF hS2, mG hS2, qI2, g3]
    have hbm := bhd_mod (P := eP E) (m := kNx K + i) hP
    have hbm2 : ((kNx K + i) % eP E + 1) % eP E = bhd (eP E) ((kNx K + i) % eP E) := by
      rw [← Nat.mod_eq_of_lt hlt, ← bhd_mod hP, Nat.mod_mod]
    have tr : trnS E K mo (k + 1) ((kNx K + i) % eP E) = (if wilS E K mo (kLs K ((kNx K + i) % eP E)) then some (kLs K ((kNx K + i) % eP E), bhd (eP E) ((kNx K + i) % eP E)) else trnS E K mo k (bhd (eP E) ((kNx K + i) % eP E))) := rfl
    rw [step, tr]
    cases hw : wilS E K mo (kLs K ((kNx K + i) % eP E)) with
    | false =>
      rw [if_pos (show bI false = 0 from rfl), if_neg Bool.false_ne_true, hbm]
      obtain ⟨M', a1, a2, a3, a4⟩ := ih fu (i + 1) M2 (w2.1.trans hR) hI2 (by omega) (by omega)
      exact ⟨M', a1, a2, a3, a4⟩
    | true =>
      rw [if_neg (show ¬ bI true = 0 by decide), if_pos rfl, hbm2]
      refine ⟨_, rfl, w2.1.trans hR, fun a b h => ?_, zsI_at _ _ _ _⟩
      rw [zsI_ne (by omega)]
      exact hI2 a b (fun h2 => h (Or.inl h2))
