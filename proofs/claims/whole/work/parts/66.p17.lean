/-! pure part 17: who opens, the model -/
theorem e_byTurnM {S : List (Nat × Nat)} {M : zM} {E : zEn} {K : zKa} {mo : zMo} {s : Nat} (hS : pMs S M.2.2) (hE : pME M.1 E) (hm : pMo M.1 E mo) (hK : pMk M.1 s E K) (wE : wfE E) (hW : ∀ w, w < 5 → kWt K w < 100) (hs : s < 30) (hL : ∀ i, i < eP E → kLs K i < eT E) (hP : 0 < eP E) (hx : kNx K < eP E) :
    ∃ M', gX12_byTurn S 306 (nI s) (bI mo.2.1) M = some (oI (turS E mo K).1, M') ∧ pMk M'.1 s E (midK (turS E mo K) K) ∧ fr (mW s) M M' := by
  have hP12 := wE.2.1
  have h0 : ¬ nI (eP E) = 0 := fun h => by have := (nI_0e (by omega)).mp h; omega
  obtain ⟨⟨v0, v1, v2, v3, v4, v5, v6, v7⟩, vk, vl, vw⟩ := id hK
  obtain ⟨M2, a1, a2, a3, a4⟩ := e_mistakeM hS hE hm hK wE hs
  have hS2 : pMs S M2.2.2 := by rw [a2]; exact hS
  have loop : ∀ (M5 : zM) (x : Nat) (mi : Int32), M5.2 = M.2 → M5.1 326 s = nI x → M5.1 328 s = mi → M5.1 325 s = (misS mo (kNu K)).2 → (∀ a b, ¬ ((a = 325 ∨ a = 326 ∨ a = 328) ∧ b = s) → M5.1 a b = M.1 a b) → x < eP E → ∃ M', gX12_byTurn_51 S zfu 306 (nI s) (nI (eP E)) 0 M5 = some (oI ((trnS E K mo (eP E) x).map (fun q => q.1)), M') ∧ pMk M'.1 s E (midK (match trnS E K mo (eP E) x with | some q => (some q.1, q.2, (misS mo (kNu K)).2, mi) | none => (none, x, (misS mo (kNu K)).2, mi)) K) ∧ fr (mW s) M M' := by
    intro M5 x mi h1 h2 h3 h4 h5 hx5
    have hK5 : pMk M5.1 s E (midK (none, x, (misS mo (kNu K)).2, mi) K) := by
      refine ⟨⟨?_, h4, h2, ?_, h3, ?_, ?_, ?_⟩, fun t ht => ⟨?_, ?_⟩, fun p hp => ?_, fun w hw => ?_⟩
      · rw [h5 324 s (by omega)]; exact v0
      · rw [h5 327 s (by omega)]; exact v3
      · rw [h5 329 s (by omega)]; exact v5
      · rw [h5 330 s (by omega)]; exact v6
      · rw [h5 331 s (by omega)]; exact v7
      · rw [h5 332 (6 * s + t) (by omega)]; exact (vk t ht).1
      · rw [h5 333 (6 * s + t) (by omega)]; exact (vk t ht).2
      · rw [h5 334 (12 * s + p) (by omega)]; exact vl p hp
      · rw [h5 335 (5 * s + w) (by omega)]; exact vw w hw
    have hR5 : M5.2.2 = M.2.2 := by rw [h1]
    obtain ⟨M', e1, e2, e3, e4⟩ := e_byTurn51 (R := M.2.2) (I := M5.1) (K := midK (none, x, (misS mo (kNu K)).2, mi) K) (mo := mo) hS (pME_cg (fun a b k1 k2 => h5 a b (by omega)) hE) (pMo_cg (fun b k1 k2 => h5 306 b (by omega)) hm) hK5 wE hW hs hL hP hx5 (eP E) zfu 0 M5 hR5 (fun a b _ => rfl) (by omega) (by unfold zfu; omega)
    rw [Nat.add_zero, Nat.mod_eq_of_lt (show kNx (midK (none, x, (misS mo (kNu K)).2, mi) K) < eP E from hx5)] at e1 e4
    rw [trnS_mid, show kNx (midK (none, x, (misS mo (kNu K)).2, mi) K) = x from rfl] at e1 e4
    have e1' : gX12_byTurn_51 S zfu 306 (nI s) (nI (eP E)) 0 M5 = some (oI ((trnS E K mo (eP E) x).map (fun q => q.1)), M') := e1
    have hfin : ∀ y : Nat, M'.1 326 s = nI y → ∀ wh : Option Nat, pMk M'.1 s E (midK (wh, y, (misS mo (kNu K)).2, mi) K) := by
      intro y hy wh
      obtain ⟨⟨w0, w1, w2, w3, w4, w5, w6, w7⟩, wk, wl, ww⟩ := hK5
      refine ⟨⟨?_, ?_, hy, ?_, ?_, ?_, ?_, ?_⟩, fun t ht => ⟨?_, ?_⟩, fun p hp => ?_, fun w hw => ?_⟩
      · rw [e3 324 s (by unfold mW0; omega)]; exact w0
      · rw [e3 325 s (by unfold mW0; omega)]; exact w1
      · rw [e3 327 s (by unfold mW0; omega)]; exact w3
      · rw [e3 328 s (by unfold mW0; omega)]; exact w4
      · rw [e3 329 s (by unfold mW0; omega)]; exact w5
      · rw [e3 330 s (by unfold mW0; omega)]; exact w6
      · rw [e3 331 s (by unfold mW0; omega)]; exact w7
      · rw [e3 332 (6 * s + t) (by unfold mW0; omega)]; exact (wk t ht).1
      · rw [e3 333 (6 * s + t) (by unfold mW0; omega)]; exact (wk t ht).2
      · rw [e3 334 (12 * s + p) (by unfold mW0; omega)]; exact wl p hp
      · rw [e3 335 (5 * s + w) (by unfold mW0; omega)]; exact ww w hw
    refine ⟨M', e1', ?_, e2, fun a b hab => by rw [e3 a b (by unfold mW mS at hab; unfold mW0; omega), h5 a b (by unfold mW mS at hab; omega)]⟩
    cases ht : trnS E K mo (eP E) x with
    | none => rw [ht] at e4; exact hfin x e4 none
    | some q => rw [ht] at e4; exact hfin q.2 e4 (some q.1)
  have z1 : ∀ (ρ : Type) (f : Int32 → Option ρ), zaI S M 100 308 (1 : Int32) f = f (nI (eP E)) := fun ρ f => by rw [← hE.1.2.1]; exact zaI_ok (i := 1) (pMg hS 3 308 100 14 (by decide)).2 (by decide) (by decide)
  unfold turS
  cases hmm : (misS mo (kNu K)).1 with
  | false =>
    obtain ⟨M', e1, e2, e3⟩ := loop M2 (kNx K) (kMi K) a2 (by rw [a4 326 s (by omega)]; exact v2) (by rw [a4 328 s (by omega)]; exact v4) a3 (fun a b hab => a4 a b (by omega)) hx
    rw [hmm] at a1
    refine ⟨M', ?_, ?_, e3⟩
    · simp only [gX12_byTurn, zgR, zrc, zb2, mF hS, z1, if_neg h0, a1, Option.bind_some, if_true, Bool.false_eq_true, if_false]
      rw [if_pos (show bI false = 0 from rfl), e1]
      cases trnS E K mo (eP E) (kNx K) <;> rfl
    · simp only [Bool.false_eq_true, if_false]
      exact e2
  | true =>
    rw [hmm] at a1
    have g1 : M2.1 328 s = kMi K := by rw [a4 328 s (by omega)]; exact v4
    have g2 : M2.1 326 s = nI (kNx K) := by rw [a4 326 s (by omega)]; exact v2
    have g3 : (zsI M2 328 s (kMi K + 1)).1 326 s = nI (kNx K) := by rw [zsI_ne (by omega)]; exact g2
    have hb : nI (kNx K) + 1 - (nI (kNx K) + 1) / nI (eP E) * nI (eP E) = nI (bhd (eP E) (kNx K)) := by
      rw [nI_1, pk_rem (by omega) hP (by omega)]
      congr 1
      rw [← bhd_mod hP, Nat.mod_eq_of_lt hx]
    obtain ⟨M', e1, e2, e3⟩ := loop (zsI (zsI M2 328 s (kMi K + 1)) 326 s (nI (bhd (eP E) (kNx K)))) (bhd (eP E) (kNx K)) (kMi K + 1) a2 (zsI_at _ _ _ _) (by rw [zsI_ne (by omega), zsI_at]) (by rw [zsI_ne (by omega), zsI_ne (by omega)]; exact a3) (fun a b hab => by rw [zsI_ne (by omega), zsI_ne (by omega)]; exact a4 a b (by omega)) (bhd_lt hP)
    refine ⟨M', ?_, ?_, e3⟩
    · have step : gX12_byTurn S 306 (nI s) (bI mo.2.1) M = gX12_byTurn_51 S zfu 306 (nI s) (nI (eP E)) 0 (zsI (zsI M2 328 s (kMi K + 1)) 326 s (nI (bhd (eP E) (kNx K)))) := by
        have hn : ¬ bI true = 0 := by decide
        simp (disch := omega) only [gX12_byTurn, zgR, zrc, zb2, mF hS, z1, if_neg h0, a1, Option.bind_some, if_true, if_neg hn, mF hS2, mG hS2, qI2, g1, g3, hb]
      rw [step, e1]
      simp only [if_true]
      cases trnS E K mo (eP E) (bhd (eP E) (kNx K)) <;> rfl
    · simp only [if_true]
      exact e2
def rstS (E : zEn) (mo : zMo) (K : zKa) : zWh := if eP E = 0 then (none, kNx K, kNu K, kMi K) else turS E mo K
theorem midK_id {K : zKa} {o : Option Nat} : midK (o, kNx K, kNu K, kMi K) K = K := rfl
theorem e_byTurnW {S : List (Nat × Nat)} {M : zM} {E : zEn} {K : zKa} {mo : zMo} {s : Nat} (hS : pMs S M.2.2) (hE : pME M.1 E) (hm : pMo M.1 E mo) (hK : pMk M.1 s E K) (wE : wfE E) (hW : ∀ w, w < 5 → kWt K w < 100) (hs : s < 30) (hL : ∀ i, i < eP E → kLs K i < eT E) (hx : eP E = 0 ∨ kNx K < eP E) :
    ∃ M', gX12_byTurn S 306 (nI s) (bI mo.2.1) M = some (oI (rstS E mo K).1, M') ∧ pMk M'.1 s E (midK (rstS E mo K) K) ∧ fr (mW s) M M' := by
  unfold rstS
  by_cases h0 : eP E = 0
  · rw [if_pos h0]
    refine ⟨M, ?_, hK, fr.refl⟩
    have z1 : ∀ (ρ : Type) (f : Int32 → Option ρ), zaI S M 100 308 (1 : Int32) f = f (nI (eP E)) := fun ρ f => by rw [← hE.1.2.1]; exact zaI_ok (i := 1) (pMg hS 3 308 100 14 (by decide)).2 (by decide) (by decide)
    simp only [gX12_byTurn, zgR, mF hS, z1, if_true]
    rw [if_pos (by rw [h0]; rfl)]
    rfl
  · rw [if_neg h0]
    exact e_byTurnM hS hE hm hK wE hW hs hL (by omega) (hx.resolve_left h0)
theorem whoS_rst {E : zEn} {mo : zMo} {K : zKa} (ha : kAp K = none) (hc : (if mo.2.2.1 then eCl E (kDy K) else none) = none) : whoS E mo K = rstS E mo K := by
  unfold whoS rstS
  rw [ha, hc]
theorem e_whoM {S : List (Nat × Nat)} {M : zM} {E : zEn} {K : zKa} {mo : zMo} {s : Nat} (hS : pMs S M.2.2) (hE : pME M.1 E) (hm : pMo M.1 E mo) (hK : pMk M.1 s E K) (wE : wfE E) (hW : ∀ w, w < 5 → kWt K w < 100) (hs : s < 30) (hL : ∀ i, i < eP E → kLs K i < eT E) (hx : eP E = 0 ∨ kNx K < eP E) (hA : ∀ j, kAp K = some j → j < eT E) (hD : kDy K < 2 ^ 30) :
    ∃ M', gX12_whoOpens S 306 (nI s) (bI mo.2.1) M = some (oI (whoS E mo K).1, M') ∧ pMk M'.1 s E (midK (whoS E mo K) K) ∧ fr (mW s) M M' := by
  have hT6 := wE.1
  have v0 := hK.1.1
  have v3 := hK.1.2.2.2.1
  obtain ⟨Mb, b1, b2, b3⟩ := e_byTurnW hS hE hm hK wE hW hs hL hx
  cases ha : kAp K with
  | some j =>
    have hj := hA j ha
    rw [ha] at v3
    have hn : ¬ oI (some j) = -1 := nI_m1ne (by omega)
    have hw : whoS E mo K = (some j, kNx K, kNu K, kMi K) := by unfold whoS; rw [ha]
    rw [hw]
    refine ⟨M, ?_, hK, fr.refl⟩
    simp (disch := omega) only [gX12_whoOpens, zgR, mF hS, mG hS, v3, if_true, if_neg hn]
  | none =>
    rw [ha] at v3
    have hp : oI none = -1 := rfl
    by_cases h100 : 100 ≤ kDy K
    · have hc : eCl E (kDy K) = none := by
        cases he : eCl E (kDy K) with
        | none => rfl
        | some j => have := (wE.2.2.2.2.2.2.2.2.2.2.1 _ _ he).2; omega
      rw [whoS_rst ha (by rw [hc]; split <;> rfl)]
      refine ⟨Mb, ?_, b2, b3⟩
      simp (disch := omega) only [gX12_whoOpens, zgR, zrc, zb2, mF hS, mG hS, v3, v0, hp, if_true, li100, nI_leI, if_pos h100, b1, Option.bind_some]
    · have v8 := hE.2.2.2.1 (kDy K) (by omega)
      cases he : eCl E (kDy K) with
      | none =>
        rw [he] at v8
        rw [whoS_rst ha (by rw [he]; split <;> rfl)]
        refine ⟨Mb, ?_, b2, b3⟩
        simp (disch := omega) only [gX12_whoOpens, zgR, zrc, zb2, mF hS, mG hS, v3, v0, v8, hp, if_true, li100, nI_leI, if_neg h100, b1, Option.bind_some]
      | some j =>
        rw [he] at v8
        have hj : j < eT E := (wE.2.2.2.2.2.2.2.2.2.2.1 _ _ he).1
        have hn : ¬ oI (some j) = -1 := nI_m1ne (by omega)
        by_cases h3 : M.1 306 47 = 3
        · have hcl := hm.2.2.1.mp h3
          rw [whoS_rst ha (by rw [hcl]; rfl)]
          refine ⟨Mb, ?_, b2, b3⟩
          simp (disch := omega) only [gX12_whoOpens, zgR, zgI, zrc, zb2, mF hS, mG hS, v3, v0, v8, hp, if_true, li100, nI_leI, if_neg h100, if_neg hn, h3, b1, Option.bind_some]
        · have hcl : mo.2.2.1 = true := by
            cases hq : mo.2.2.1 with
            | true => rfl
            | false => exact absurd (hm.2.2.1.mpr hq) h3
          have hw : whoS E mo K = (some j, kNx K, kNu K, kMi K) := by unfold whoS; rw [ha, hcl, if_pos rfl, he]
          rw [hw]
          refine ⟨M, ?_, hK, fr.refl⟩
          simp (disch := omega) only [gX12_whoOpens, zgR, zgI, mF hS, mG hS, v3, v0, v8, hp, if_true, li100, nI_leI, if_neg h100, if_neg hn, if_neg h3]
