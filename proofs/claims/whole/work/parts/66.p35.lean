/-! pure part 35: appoint, put, swap, undo, keep, back -/
theorem mV_U {a b : Nat} (h : mV a b) : mU a b := by unfold mV at h; unfold mU mS; omega
theorem pSv_set {M : zM} {E : zEn} {K : zKa} {le : Int32} (a : Option Nat) (h : pSv M.1 107 E K le) : pSv (zsI M 107 3 (oI a)).1 107 E (setLA K (kLs K) a) le := by
  obtain ⟨⟨v0, v1, v2, v3, v4, v5, v6, v7, v8, v9, v10⟩, vl, vk, vw⟩ := h
  have e : ∀ j, j ≠ 3 → (zsI M 107 3 (oI a)).1 107 j = M.1 107 j := fun j hj => zsI_ne (by omega)
  exact ⟨⟨(e 0 (by omega)).trans v0, (e 1 (by omega)).trans v1, (e 2 (by omega)).trans v2, zsI_at _ _ _ _, (e 4 (by omega)).trans v4, (e 5 (by omega)).trans v5, (e 6 (by omega)).trans v6, (e 7 (by omega)).trans v7, (e 8 (by omega)).trans v8, (e 9 (by omega)).trans v9, (e 10 (by omega)).trans v10⟩, fun i hi => (zsI_ne (by omega)).trans (vl i hi), fun i hi => ⟨(zsI_ne (by omega)).trans (vk i hi).1, (zsI_ne (by omega)).trans (vk i hi).2⟩, fun w hw => (zsI_ne (by omega)).trans (vw w hw)⟩
theorem pMk_set {M : zM} {E : zEn} {K : zKa} (a : Option Nat) (h : pMk M.1 0 E K) : pMk (zsI M 327 0 (oI a)).1 0 E (setLA K (kLs K) a) := by
  obtain ⟨⟨v0, v1, v2, v3, v4, v5, v6, v7⟩, vk, vl, vw⟩ := h
  exact ⟨⟨(zsI_ne (by omega)).trans v0, (zsI_ne (by omega)).trans v1, (zsI_ne (by omega)).trans v2, zsI_at _ _ _ _, (zsI_ne (by omega)).trans v4, (zsI_ne (by omega)).trans v5, (zsI_ne (by omega)).trans v6, (zsI_ne (by omega)).trans v7⟩, fun t ht => ⟨(zsI_ne (by omega)).trans (vk t ht).1, (zsI_ne (by omega)).trans (vk t ht).2⟩, fun p hp => (zsI_ne (by omega)).trans (vl p hp), fun w hw => (zsI_ne (by omega)).trans (vw w hw)⟩
def upN (f : Nat → Nat) (t x : Nat) : Nat → Nat := fun j => if j = t then x else f j
theorem pSv_lst {M : zM} {E : zEn} {K : zKa} {le : Int32} (p x : Nat) (h : pSv M.1 107 E K le) : pSv (zsI M 109 p (nI x)).1 107 E (setLA K (upN (kLs K) p x) (kAp K)) le := by
  obtain ⟨⟨v0, v1, v2, v3, v4, v5, v6, v7, v8, v9, v10⟩, vl, vk, vw⟩ := h
  have e : ∀ j, (zsI M 109 p (nI x)).1 107 j = M.1 107 j := fun j => zsI_ne (by omega)
  refine ⟨⟨(e 0).trans v0, (e 1).trans v1, (e 2).trans v2, (e 3).trans v3, (e 4).trans v4, (e 5).trans v5, (e 6).trans v6, (e 7).trans v7, (e 8).trans v8, (e 9).trans v9, (e 10).trans v10⟩, fun i hi => ?_, fun i hi => ⟨(zsI_ne (by omega)).trans (vk i hi).1, (zsI_ne (by omega)).trans (vk i hi).2⟩, fun w hw => (zsI_ne (by omega)).trans (vw w hw)⟩
  show (zsI M 109 p (nI x)).1 109 i = nI (if i = p then x else kLs K i)
  by_cases hi2 : i = p
  · subst hi2
    rw [if_pos rfl, zsI_at]
  · rw [if_neg hi2, zsI_ne (by omega)]
    exact vl i hi
theorem pMk_lst {M : zM} {E : zEn} {K : zKa} (p x : Nat) (h : pMk M.1 0 E K) : pMk (zsI M 334 p (nI x)).1 0 E (setLA K (upN (kLs K) p x) (kAp K)) := by
  obtain ⟨⟨v0, v1, v2, v3, v4, v5, v6, v7⟩, vk, vl, vw⟩ := h
  refine ⟨⟨(zsI_ne (by omega)).trans v0, (zsI_ne (by omega)).trans v1, (zsI_ne (by omega)).trans v2, (zsI_ne (by omega)).trans v3, (zsI_ne (by omega)).trans v4, (zsI_ne (by omega)).trans v5, (zsI_ne (by omega)).trans v6, (zsI_ne (by omega)).trans v7⟩, fun t ht => ⟨(zsI_ne (by omega)).trans (vk t ht).1, (zsI_ne (by omega)).trans (vk t ht).2⟩, fun i hi => ?_, fun w hw => (zsI_ne (by omega)).trans (vw w hw)⟩
  show (zsI M 334 p (nI x)).1 334 (12 * 0 + i) = nI (if i = p then x else kLs K i)
  by_cases hi2 : i = p
  · subst hi2
    rw [if_pos rfl, show 12 * 0 + i = i by omega, zsI_at]
  · rw [if_neg hi2, zsI_ne (by omega)]
    exact vl i hi
theorem zu_same {S : List (Nat × Nat)} {M : zM} {A : zAb} {f g : zM → Option (Int32 × zM)} (hw : aW A) (hc : cI S M A) (v : Int32) (h1 : f M = some (v, M)) (h2 : ∀ M' : zM, mI S M' A → g M' = some (v, zsI M' 306 0 0)) : ∃ (v : Int32) (A' : zAb) (M1 : zM), f M = some (v, M1) ∧ aW A' ∧ cI S M1 A' ∧ cX M M1 ∧ ∀ M' : zM, mI S M' A → ∃ M2 : zM, g M' = some (v, M2) ∧ mI S M2 A' ∧ mX M' M2 :=
  ⟨v, A, M, h1, hw, hc, fun _ _ _ => rfl, fun M' hm => ⟨_, h2 M' hm, mFr_I hw (th0 M' 0) hm, mFr_X (th0 M' 0)⟩⟩
theorem P_appoint : zP_appoint zInv := by
  intro S M hM a1
  refine zu (f := gX11_appoint S 0 a1) (g := gX12_appoint S 306 a1) ?_ M hM
  intro A M hw hc
  obtain ⟨t, E, K, le, im, st, no, tp, fl⟩ := A
  have hc2 : cIx S M t E K le im st no tp fl := hc
  have hw2 : aWx E K im st no tp fl := hw
  obtain ⟨⟨hS, hR, ht, h03, h04⟩, hV, hK, him, hst, hno, htp, hfl⟩ := hc2
  obtain ⟨wE, wK, wim, wst, wno, wtp, wfl⟩ := hw2
  have hT6 := wE.1
  have hP12 := wE.2.1
  have hW5 := wE.2.2.2.1
  have T0 := pTs_of hS hR t (Or.inr ht)
  have N0 := pSs_of hS hR 107 (by decide)
  have gT : ∀ (ρ : Type) (M' : zM) (f : Nat → Option ρ), M'.2.2 = M.2.2 → zgR S M' 0 11 14 3 f = f t := fun ρ M' f h => zgR_of ((hS 0 (by decide)).trans rfl) h03 M' f h
  have D := cD hS hR
  have hrc : ∀ (ρ : Type) (o : Option ρ), zrc S t 10 18 o = o := fun ρ o => zrc_ok T0.1
  have hp := e_hasTrade (M := M) (x := a1) T0.1 hV.1.1
  have mp : ∀ M' : zM, mIx S M' E K im st no tp fl → gX12_isTrade S 306 a1 (zsI M' 306 0 0) = some (bI (inR (eT E) a1)) := fun M' hm => e_isTrade (M := zsI M' 306 0 0) hm.1 ((zsI_ne (by omega)).trans hm.2.1.1.1)
  cases h : inR (eT E) a1 with
  | false =>
    rw [h] at hp mp
    refine zu_same hw hc 0 ?_ (fun M' hm => ?_)
    · simp (disch := first | omega | simp only [qI2, qL2, qC2, qF2]) only [gX11_appoint, ↓gT, ↓hrc, ↓bind_of hp, bIf, if_true]
    · have mS' := hm.1
      simp (disch := first | omega | simp only [qI2, qL2, qC2, qF2]) only [gX12_appoint, ↓mH mS', ↓bind_of (mp M' hm), bIf, if_true]
  | true =>
    rw [h] at hp mp
    obtain ⟨j, hj, rfl⟩ := inR_ex (by omega) h
    obtain ⟨M5, e1, e2, e3, e4⟩ := c_add hS hR hP12 hK hst wst.1
    have D5 := cD hS (e2 ▸ hR : pRf M5.2.2)
    have N5 := cN hS (e2 ▸ hR : pRf M5.2.2)
    have hK5 : pSv M5.1 107 E K le := pSv_cg (fun a b k1 k2 => e4 a b (by omega)) hK
    refine ⟨1, (t, E, setLA K (kLs K) (some j), le, im, addS st K, no, tp, fl), zsI M5 107 3 (nI j), ?_, ⟨wE, ⟨wK.1, wK.2.1, wK.2.2.1, fun a ha => (by cases ha; exact hj), wK.2.2.2.2⟩, wim, addS_W wst wK, wno, wtp, wfl⟩, cIx_mk hc (fun a b k1 k2 k3 k4 => by rw [zsI_ne (by omega)]; exact e4 a b k3) (e2 ▸ hR : pRf M5.2.2) (by show M5.2.2 0 3 = _; rw [e2]; exact h03) (by show M5.2.2 0 4 = _; rw [e2]; exact h04) (pSv_set (some j) hK5) ⟨(zsI_ne (by omega)).trans e3.1, fun i hi => ⟨fun p hp => (zsI_ne (by omega)).trans ((e3.2 i hi).1 p hp), (zsI_ne (by omega)).trans (e3.2 i hi).2⟩⟩, fun a b k => by rw [zsI_ne (by omega)]; exact e4 a b (by omega), ?_⟩
    · simp (disch := first | omega | simp only [qI2, qL2, qC2, qF2]) only [gX11_appoint, ↓gT, ↓hrc, ↓bind_of hp, if_neg bIt, ↓D, ↓bind_of e1, ↓D5, ↓N5]
    · skip
      intro M' hm
      have hm2 : mIx S M' E K im st no tp fl := hm
      obtain ⟨mS', mE, mK, mim, mst, mno, mtp, mfl, mmd⟩ := id hm2
      obtain ⟨M3, g1, g2, g3, g4⟩ := m_keepNow (M := zsI M' 306 0 0) (st := st) mS' hP12 (pMk_cg hP12 (fun a b q => zsI_ne (by unfold mS at q; omega)) mK) ⟨(zsI_ne (by omega)).trans mst.1, fun i hi => pMk_cg hP12 (fun a b q => zsI_ne (by unfold mS at q; omega)) (mst.2 i hi)⟩ wst.1
      have mS3 : pMs S M3.2.2 := g4.1 ▸ mS'
      have off : ∀ a b, ¬ mV a b → ¬ (a = 306 ∧ b = 0) → ¬ (a = 327 ∧ b = 0) → (zsI M3 327 0 (nI j)).1 a b = M'.1 a b := fun a b q1 q2 q3 => by rw [zsI_ne (by omega), g4.2 a b q1, zsI_ne (by omega)]
      refine ⟨zsI M3 327 0 (nI j), ?_, mIx_mk hP12 hm2 (fun a b k1 k2 => off a b (fun q => k2 (mV_U q)) (by unfold mU mS at k2; omega) (by unfold mU mS at k2; omega)) mS3 (pMk_set (some j) g2) ⟨(zsI_ne (by omega)).trans g3.1, fun i hi => pMk_cg hP12 (fun a b q => zsI_ne (by unfold mS at q; omega)) (g3.2 i hi)⟩, ⟨g4.1, fun a b k => off a b (by unfold mV; omega) (by omega) (by omega)⟩⟩
      simp (disch := first | omega | simp only [qI2, qL2, qC2, qF2]) only [gX12_appoint, ↓mH mS', ↓bind_of (mp M' hm2), if_neg bIt, ↓bind_of g1, ↓mH mS3, ↓mL mS3]
theorem P_put : zP_put zInv := by
  intro S M hM a1 a2
  refine zu (f := gX11_put S 0 a1 a2) (g := gX12_put S 306 a1 a2) ?_ M hM
  intro A M hw hc
  obtain ⟨t, E, K, le, im, st, no, tp, fl⟩ := A
  have hc2 : cIx S M t E K le im st no tp fl := hc
  have hw2 : aWx E K im st no tp fl := hw
  obtain ⟨⟨hS, hR, ht, h03, h04⟩, hV, hK, him, hst, hno, htp, hfl⟩ := hc2
  obtain ⟨wE, wK, wim, wst, wno, wtp, wfl⟩ := hw2
  have hT6 := wE.1
  have hP12 := wE.2.1
  have hW5 := wE.2.2.2.1
  have T0 := pTs_of hS hR t (Or.inr ht)
  have N0 := pSs_of hS hR 107 (by decide)
  have gT : ∀ (ρ : Type) (M' : zM) (f : Nat → Option ρ), M'.2.2 = M.2.2 → zgR S M' 0 11 14 3 f = f t := fun ρ M' f h => zgR_of ((hS 0 (by decide)).trans rfl) h03 M' f h
  have D := cD hS hR
  have N := cN hS hR
  have hrc : ∀ (ρ : Type) (o : Option ρ), zrc S t 10 18 o = o := fun ρ o => zrc_ok T0.1
  have hq := e_hasPlace (M := M) (x := a1) N0.1 hK.1.2.2.2.2.2.2.2.2.2.2
  have mq : ∀ M' : zM, mIx S M' E K im st no tp fl → gX12_isPlace S 306 a1 (zsI M' 306 0 0) = some (bI (inR (eP E) a1)) := fun M' hm => e_isPlace (M := zsI M' 306 0 0) hm.1 ((zsI_ne (by omega)).trans hm.2.1.1.2.1)
  have hp := e_hasTrade (M := M) (x := a2) T0.1 hV.1.1
  have mp : ∀ M' : zM, mIx S M' E K im st no tp fl → gX12_isTrade S 306 a2 (zsI M' 306 0 0) = some (bI (inR (eT E) a2)) := fun M' hm => e_isTrade (M := zsI M' 306 0 0) hm.1 ((zsI_ne (by omega)).trans hm.2.1.1.1)
  cases h1 : inR (eP E) a1 with
  | false =>
    rw [h1] at hq mq
    refine zu_same hw hc (-1) ?_ (fun M' hm => ?_)
    · simp (disch := first | omega | simp only [qI2, qL2, qC2, qF2]) only [gX11_put, ↓D, ↓N, ↓bind_of hq, bIf, if_true]
    · have mS' := hm.1
      simp (disch := first | omega | simp only [qI2, qL2, qC2, qF2]) only [gX12_put, ↓mH mS', ↓bind_of (mq M' hm), bIf, if_true]
  | true =>
    rw [h1] at hq mq
    cases h : inR (eT E) a2 with
    | false =>
      rw [h] at hp mp
      refine zu_same hw hc (-1) ?_ (fun M' hm => ?_)
      · simp (disch := first | omega | simp only [qI2, qL2, qC2, qF2]) only [gX11_put, ↓D, ↓N, ↓bind_of hq, if_neg bIt, ↓gT, ↓hrc, ↓bind_of hp, bIf, if_true]
      · have mS' := hm.1
        simp (disch := first | omega | simp only [qI2, qL2, qC2, qF2]) only [gX12_put, ↓mH mS', ↓bind_of (mq M' hm), if_neg bIt, ↓bind_of (mp M' hm), bIf, if_true]
    | true =>
      rw [h] at hp mp
      obtain ⟨q, hq2, rfl⟩ := inR_ex (by omega) h1
      obtain ⟨j, hj, rfl⟩ := inR_ex (by omega) h
      obtain ⟨M5, e1, e2, e3, e4⟩ := c_add hS hR hP12 hK hst wst.1
      have D5 := cD hS (e2 ▸ hR : pRf M5.2.2)
      have N5 := cN hS (e2 ▸ hR : pRf M5.2.2)
      have hK5 : pSv M5.1 107 E K le := pSv_cg (fun a b k1 k2 => e4 a b (by omega)) hK
      have l5 : M5.1 109 q = nI (kLs K q) := hK5.2.1 q hq2
      refine ⟨nI (kLs K q), (t, E, setLA K (upN (kLs K) q j) (kAp K), le, im, addS st K, no, tp, fl), zsI M5 109 q (nI j), ?_, ⟨wE, ⟨fun i hi => ?_, wK.2⟩, wim, addS_W wst wK, wno, wtp, wfl⟩, cIx_mk hc (fun a b k1 k2 k3 k4 => by rw [zsI_ne (by omega)]; exact e4 a b k3) (e2 ▸ hR : pRf M5.2.2) (by show M5.2.2 0 3 = _; rw [e2]; exact h03) (by show M5.2.2 0 4 = _; rw [e2]; exact h04) (pSv_lst q j hK5) ⟨(zsI_ne (by omega)).trans e3.1, fun i hi => ⟨fun p hp => (zsI_ne (by omega)).trans ((e3.2 i hi).1 p hp), (zsI_ne (by omega)).trans (e3.2 i hi).2⟩⟩, fun a b k => by rw [zsI_ne (by omega)]; exact e4 a b (by omega), ?_⟩
      · simp (disch := first | omega | simp only [qI2, qL2, qC2, qF2]) only [gX11_put, ↓D, ↓N, ↓bind_of hq, if_neg bIt, ↓gT, ↓hrc, ↓bind_of hp, ↓bind_of e1, ↓D5, ↓N5, l5]
      · show (if i = q then j else kLs K i) < eT E
        split
        · exact hj
        · exact wK.1 i hi
      · skip
        intro M' hm
        have hm2 : mIx S M' E K im st no tp fl := hm
        obtain ⟨mS', mE, mK, mim, mst, mno, mtp, mfl, mmd⟩ := id hm2
        obtain ⟨M3, g1, g2, g3, g4⟩ := m_keepNow (M := zsI M' 306 0 0) (st := st) mS' hP12 (pMk_cg hP12 (fun a b q => zsI_ne (by unfold mS at q; omega)) mK) ⟨(zsI_ne (by omega)).trans mst.1, fun i hi => pMk_cg hP12 (fun a b q => zsI_ne (by unfold mS at q; omega)) (mst.2 i hi)⟩ wst.1
        have mS3 : pMs S M3.2.2 := g4.1 ▸ mS'
        have l3 : M3.1 334 q = nI (kLs K q) := by have := g2.2.2.1 q hq2; rw [show 12 * 0 + q = q by omega] at this; exact this
        have off : ∀ a b, ¬ mV a b → ¬ (a = 306 ∧ b = 0) → ¬ (a = 334 ∧ b < 12) → (zsI M3 334 q (nI j)).1 a b = M'.1 a b := fun a b q1 q2 q3 => by rw [zsI_ne (by omega), g4.2 a b q1, zsI_ne (by omega)]
        refine ⟨zsI M3 334 q (nI j), ?_, mIx_mk hP12 hm2 (fun a b k1 k2 => off a b (fun q => k2 (mV_U q)) (by unfold mU mS at k2; omega) (by unfold mU mS at k2; omega)) mS3 (pMk_lst q j g2) ⟨(zsI_ne (by omega)).trans g3.1, fun i hi => pMk_cg hP12 (fun a b q => zsI_ne (by unfold mS at q; omega)) (g3.2 i hi)⟩, ⟨g4.1, fun a b k => off a b (by unfold mV; omega) (by omega) (by omega)⟩⟩
        simp (disch := first | omega | simp only [qI2, qL2, qC2, qF2]) only [gX12_put, ↓mH mS', ↓bind_of (mq M' hm2), if_neg bIt, ↓bind_of (mp M' hm2), ↓bind_of g1, ↓mH mS3, ↓mG mS3, l3]
theorem P_swap : zP_swap zInv := by
  intro S M hM a1 a2
  refine zu (f := gX11_swap S 0 a1 a2) (g := gX12_swap S 306 a1 a2) ?_ M hM
  intro A M hw hc
  obtain ⟨t, E, K, le, im, st, no, tp, fl⟩ := A
  have hc2 : cIx S M t E K le im st no tp fl := hc
  have hw2 : aWx E K im st no tp fl := hw
  obtain ⟨⟨hS, hR, ht, h03, h04⟩, hV, hK, him, hst, hno, htp, hfl⟩ := hc2
  obtain ⟨wE, wK, wim, wst, wno, wtp, wfl⟩ := hw2
  have hT6 := wE.1
  have hP12 := wE.2.1
  have hW5 := wE.2.2.2.1
  have T0 := pTs_of hS hR t (Or.inr ht)
  have N0 := pSs_of hS hR 107 (by decide)
  have gT : ∀ (ρ : Type) (M' : zM) (f : Nat → Option ρ), M'.2.2 = M.2.2 → zgR S M' 0 11 14 3 f = f t := fun ρ M' f h => zgR_of ((hS 0 (by decide)).trans rfl) h03 M' f h
  have D := cD hS hR
  have N := cN hS hR
  have hq := e_hasPlace (M := M) (x := a1) N0.1 hK.1.2.2.2.2.2.2.2.2.2.2
  have mq : ∀ M' : zM, mIx S M' E K im st no tp fl → gX12_isPlace S 306 a1 (zsI M' 306 0 0) = some (bI (inR (eP E) a1)) := fun M' hm => e_isPlace (M := zsI M' 306 0 0) hm.1 ((zsI_ne (by omega)).trans hm.2.1.1.2.1)
  have hp := e_hasPlace (M := M) (x := a2) N0.1 hK.1.2.2.2.2.2.2.2.2.2.2
  have mp : ∀ M' : zM, mIx S M' E K im st no tp fl → gX12_isPlace S 306 a2 (zsI M' 306 0 0) = some (bI (inR (eP E) a2)) := fun M' hm => e_isPlace (M := zsI M' 306 0 0) hm.1 ((zsI_ne (by omega)).trans hm.2.1.1.2.1)
  cases h1 : inR (eP E) a1 with
  | false =>
    rw [h1] at hq mq
    refine zu_same hw hc 0 ?_ (fun M' hm => ?_)
    · simp (disch := first | omega | simp only [qI2, qL2, qC2, qF2]) only [gX11_swap, ↓D, ↓N, ↓bind_of hq, bIf, if_true]
    · have mS' := hm.1
      simp (disch := first | omega | simp only [qI2, qL2, qC2, qF2]) only [gX12_swap, ↓mH mS', ↓bind_of (mq M' hm), bIf, if_true]
  | true =>
    rw [h1] at hq mq
    cases h : inR (eP E) a2 with
    | false =>
      rw [h] at hp mp
      refine zu_same hw hc 0 ?_ (fun M' hm => ?_)
      · simp (disch := first | omega | simp only [qI2, qL2, qC2, qF2]) only [gX11_swap, ↓D, ↓N, ↓bind_of hq, if_neg bIt, ↓bind_of hp, bIf, if_true]
      · have mS' := hm.1
        simp (disch := first | omega | simp only [qI2, qL2, qC2, qF2]) only [gX12_swap, ↓mH mS', ↓bind_of (mq M' hm), if_neg bIt, ↓bind_of (mp M' hm), bIf, if_true]
    | true =>
      rw [h] at hp mp
      obtain ⟨q, hq2, rfl⟩ := inR_ex (by omega) h1
      obtain ⟨j, hj, rfl⟩ := inR_ex (by omega) h
      have lq : M.1 109 q = nI (kLs K q) := hK.2.1 q hq2
      have lj : M.1 109 j = nI (kLs K j) := hK.2.1 j hj
      have wq := wK.1 q hq2
      have wj := wK.1 j hj
      have ml : ∀ M' : zM, mIx S M' E K im st no tp fl → M'.1 334 q = nI (kLs K q) ∧ M'.1 334 j = nI (kLs K j) := fun M' hm => by
        have u := hm.2.2.1.2.2.1 q hq2
        have v := hm.2.2.1.2.2.1 j hj
        rw [show 12 * 0 + q = q by omega] at u
        rw [show 12 * 0 + j = j by omega] at v
        exact ⟨u, v⟩
      by_cases heq : nI (kLs K q) = nI (kLs K j)
      · refine zu_same hw hc 0 ?_ (fun M' hm => ?_)
        · simp (disch := first | omega | simp only [qI2, qL2, qC2, qF2]) only [gX11_swap, ↓D, ↓N, ↓bind_of hq, if_neg bIt, ↓bind_of hp, lq, lj, ↓if_pos heq]
        · have mS' := hm.1
          have mll := ml M' hm
          by_cases hqj : nI q = nI j
          · simp (disch := first | omega | simp only [qI2, qL2, qC2, qF2]) only [gX12_swap, ↓mH mS', ↓bind_of (mq M' hm), if_neg bIt, ↓bind_of (mp M' hm), ↓if_pos hqj]
          · simp (disch := first | omega | simp only [qI2, qL2, qC2, qF2]) only [gX12_swap, ↓mH mS', ↓bind_of (mq M' hm), if_neg bIt, ↓bind_of (mp M' hm), ↓if_neg hqj, ↓mG mS', zsI_ne, mll.1, mll.2, ↓if_pos heq]
      · have hqj : ¬ nI q = nI j := fun e => heq (by rw [(nI_eq (by omega) (by omega)).mp e])
        have hqj2 : ¬ q = j := fun e => hqj (by rw [e])
        obtain ⟨M5, e1, e2, e3, e4⟩ := c_add hS hR hP12 hK hst wst.1
        have R5 : pRf M5.2.2 := e2 ▸ hR
        have D5 := cD hS R5
        have N5 := cN hS R5
        have hK5 : pSv M5.1 107 E K le := pSv_cg (fun a b k1 k2 => e4 a b (by omega)) hK
        refine ⟨1, (t, E, setLA K (upN (upN (kLs K) q (kLs K j)) j (kLs K q)) (kAp K), le, im, addS st K, no, tp, fl), zsI (zsI M5 109 q (nI (kLs K j))) 109 j (nI (kLs K q)), ?_, ⟨wE, ⟨fun i hi => ?_, wK.2⟩, wim, addS_W wst wK, wno, wtp, wfl⟩, cIx_mk hc (fun a b k1 k2 k3 k4 => by rw [zsI_ne (by omega), zsI_ne (by omega)]; exact e4 a b k3) R5 (by show M5.2.2 0 3 = _; rw [e2]; exact h03) (by show M5.2.2 0 4 = _; rw [e2]; exact h04) (pSv_lst j (kLs K q) (pSv_lst q (kLs K j) hK5)) ⟨(zsI_ne (by omega)).trans ((zsI_ne (by omega)).trans e3.1), fun i hi => ⟨fun p hp => (zsI_ne (by omega)).trans ((zsI_ne (by omega)).trans ((e3.2 i hi).1 p hp)), (zsI_ne (by omega)).trans ((zsI_ne (by omega)).trans (e3.2 i hi).2)⟩⟩, fun a b k => by rw [zsI_ne (by omega), zsI_ne (by omega)]; exact e4 a b (by omega), ?_⟩
        · simp (disch := first | omega | simp only [qI2, qL2, qC2, qF2]) only [gX11_swap, ↓D, ↓N, ↓bind_of hq, if_neg bIt, ↓bind_of hp, lq, lj, ↓if_neg heq, ↓bind_of e1, ↓D5, ↓N5]
        · show (if i = j then kLs K q else if i = q then kLs K j else kLs K i) < eT E
          split
          · exact wq
          split
          · exact wj
          · exact wK.1 i hi
        · skip
          intro M' hm
          have hm2 : mIx S M' E K im st no tp fl := hm
          obtain ⟨mS', mE, mK, mim, mst, mno, mtp, mfl, mmd⟩ := id hm2
          have mll := ml M' hm2
          obtain ⟨M3, g1, g2, g3, g4⟩ := m_keepNow (M := zsI M' 306 0 0) (st := st) mS' hP12 (pMk_cg hP12 (fun a b q => zsI_ne (by unfold mS at q; omega)) mK) ⟨(zsI_ne (by omega)).trans mst.1, fun i hi => pMk_cg hP12 (fun a b q => zsI_ne (by unfold mS at q; omega)) (mst.2 i hi)⟩ wst.1
          have mS3 : pMs S M3.2.2 := g4.1 ▸ mS'
          have l3 : M3.1 334 q = nI (kLs K q) := by have := g2.2.2.1 q hq2; rw [show 12 * 0 + q = q by omega] at this; exact this
          have l4 : M3.1 334 j = nI (kLs K j) := by have := g2.2.2.1 j hj; rw [show 12 * 0 + j = j by omega] at this; exact this
          have off : ∀ a b, ¬ mV a b → ¬ (a = 306 ∧ b = 0) → ¬ (a = 334 ∧ b < 12) → (zsI (zsI M3 334 q (nI (kLs K j))) 334 j (nI (kLs K q))).1 a b = M'.1 a b := fun a b q1 q2 q3 => by rw [zsI_ne (by omega), zsI_ne (by omega), g4.2 a b q1, zsI_ne (by omega)]
          refine ⟨zsI (zsI M3 334 q (nI (kLs K j))) 334 j (nI (kLs K q)), ?_, mIx_mk hP12 hm2 (fun a b k1 k2 => off a b (fun q => k2 (mV_U q)) (by unfold mU mS at k2; omega) (by unfold mU mS at k2; omega)) mS3 (pMk_lst j (kLs K q) (pMk_lst q (kLs K j) g2)) ⟨(zsI_ne (by omega)).trans ((zsI_ne (by omega)).trans g3.1), fun i hi => pMk_cg hP12 (fun a b q => by rw [zsI_ne (by unfold mS at q; omega), zsI_ne (by unfold mS at q; omega)]) (g3.2 i hi)⟩, ⟨g4.1, fun a b k => off a b (by unfold mV; omega) (by omega) (by omega)⟩⟩
          simp (disch := first | omega | simp only [qI2, qL2, qC2, qF2]) only [gX12_swap, ↓mH mS', ↓bind_of (mq M' hm2), if_neg bIt, ↓bind_of (mp M' hm2), ↓if_neg hqj, ↓mG mS', zsI_ne, mll.1, mll.2, ↓if_neg heq, ↓bind_of g1, ↓mH mS3, ↓mG mS3, l3, l4]
