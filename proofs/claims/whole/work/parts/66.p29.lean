/-! pure part 29: ahead, opener, longAt, missing -/
theorem P_opener : zP_opener zInv := by
  intro S M hM a1
  refine zq (f := gX11_opener S 0 a1) (g := gX12_opener S 306 a1) ?_ M hM
  intro A M hw hc
  obtain ⟨t, E, K, le, im, st, no, tp, fl⟩ := A
  have hc2 : cIx S M t E K le im st no tp fl := hc
  have hw2 : aWx E K im st no tp fl := hw
  obtain ⟨⟨hS, hR, ht, h03, h04⟩, hV, hK, him, hst, hno, htp, hfl⟩ := hc2
  obtain ⟨wE, wK, wim, wst, wno, wtp, wfl⟩ := hw2
  have hT6 := wE.1
  have hP12 := wE.2.1
  have hW5 := wE.2.2.2.1
  have T0 := pTs_of hS hR t (Or.inr ht)
  have N0 := pSs_of hS hR 107 (by decide)
  have gT : ∀ (ρ : Type) (M' : zM) (f : Nat → Option ρ), M'.2.2 = M.2.2 → zgR S M' 0 11 14 3 f = f t := fun ρ M' f h => zgR_of ((hS 0 (by decide)).trans rfl) h03 M' f h
  cases h : inD a1 with
  | false =>
    have hd : ∀ M : zM, gX11_isDays S a1 M = some (bI false) := fun M => by rw [e_isDays, h]
    have md : ∀ M : zM, gX12_isAhead S a1 M = some (bI false) := fun M => by rw [e_isAhead, h]
    refine ⟨-1, M, ?_, cFr.refl' hR, ?_⟩
    · simp only [gX11_opener, ↓bind_of (hd M), bIf, if_true]
    · skip
      intro M' hm
      have hm2 : mIx S M' E K im st no tp fl := hm
      obtain ⟨mS', mE, mK, mim, mst, mno, mtp, mfl, mmd⟩ := id hm2
      refine ⟨_, ?_, th0 M' 0⟩
      simp (disch := first | omega | simp only [qI2, qL2, qC2, qF2]) only [gX12_opener, ↓mH mS', ↓bind_of (md _), bIf, if_true]
  | true =>
    have hd : ∀ M : zM, gX11_isDays S a1 M = some (bI true) := fun M => by rw [e_isDays, h]
    have md : ∀ M : zM, gX12_isAhead S a1 M = some (bI true) := fun M => by rw [e_isAhead, h]
    obtain ⟨n, hn, rfl⟩ := inD_ex h
    obtain ⟨M1, e1, e2, e3⟩ := c_try (n := n + 1) hS hR ht h03 hV wE hK wK (by omega)
    generalize hK' : dysS E (moN E) (n + 1) K = K' at *
    have D := cD hS hR
    have D1 := cD e2.1.1.1 e2.1.1.2.1
    have N1 := cT e2.1.1.1 e2.1.1.2.1
    have v9 := e2.2.1.1.2.2.2.2.2.2.2.2.2.1
    have v4 := e2.2.1.1.2.2.2.2.1
    have e1' : gX11_tryDays S 0 (nI n + 1) M = some M1 := by rw [nI_1]; exact e1
    refine ⟨if oI (kBy K') = -1 then -2 else oI (kBy K'), M1, ?_, cRun_fr hR e2, ?_⟩
    · simp (disch := first | omega | simp only [qI2, qL2, qC2, qF2]) only [gX11_opener, ↓bind_of (hd M), if_neg bIt, ↓D, ↓bind_of e1', ↓D1, ↓N1, v9, v4]
      split <;> rfl
    · skip
      intro M' hm
      have hm2 : mIx S M' E K im st no tp fl := hm
      obtain ⟨mS', mE, mK, mim, mst, mno, mtp, mfl, mmd⟩ := id hm2
      obtain ⟨M3, f1, f2, f3⟩ := m_begin wE hm2
      obtain ⟨M4, g1, g2⟩ := m_goes (n := n + 1) rfl f2 wK (by omega)
      rw [hK'] at g2
      have g1' : gX12_goesOn S 306 (nI n + 1) M3 = some M4 := by rw [nI_1]; exact g1
      refine ⟨M4, ?_, g2.2.2⟩
      have w9 := g2.2.1.1.2.2.2.2.2.2.2
      have w4 := g2.2.1.1.2.2.2.2.2.2.1
      simp (disch := first | omega | simp only [qI2, qL2, qC2, qF2]) only [gX12_opener, ↓mH mS', ↓bind_of (md _), if_neg bIt, ↓bind_of f1, ↓mH f2.1.1, ↓bind_of g1', ↓mH g2.1.1, ↓mL g2.1.1, w9, w4]
      split <;> rfl
theorem P_longAt : zP_longAt zInv := by
  intro S M hM a1
  refine zq (f := gX11_longAt S 0 a1) (g := gX12_longAt S 306 a1) ?_ M hM
  intro A M hw hc
  obtain ⟨t, E, K, le, im, st, no, tp, fl⟩ := A
  have hc2 : cIx S M t E K le im st no tp fl := hc
  have hw2 : aWx E K im st no tp fl := hw
  obtain ⟨⟨hS, hR, ht, h03, h04⟩, hV, hK, him, hst, hno, htp, hfl⟩ := hc2
  obtain ⟨wE, wK, wim, wst, wno, wtp, wfl⟩ := hw2
  have hT6 := wE.1
  have hP12 := wE.2.1
  have hW5 := wE.2.2.2.1
  have T0 := pTs_of hS hR t (Or.inr ht)
  have N0 := pSs_of hS hR 107 (by decide)
  have gT : ∀ (ρ : Type) (M' : zM) (f : Nat → Option ρ), M'.2.2 = M.2.2 → zgR S M' 0 11 14 3 f = f t := fun ρ M' f h => zgR_of ((hS 0 (by decide)).trans rfl) h03 M' f h
  cases h : inD a1 with
  | false =>
    have hd : ∀ M : zM, gX11_isDays S a1 M = some (bI false) := fun M => by rw [e_isDays, h]
    have md : ∀ M : zM, gX12_isAhead S a1 M = some (bI false) := fun M => by rw [e_isAhead, h]
    refine ⟨-1, M, ?_, cFr.refl' hR, ?_⟩
    · simp only [gX11_longAt, ↓bind_of (hd M), bIf, if_true]
    · skip
      intro M' hm
      have hm2 : mIx S M' E K im st no tp fl := hm
      obtain ⟨mS', mE, mK, mim, mst, mno, mtp, mfl, mmd⟩ := id hm2
      refine ⟨_, ?_, th0 M' 0⟩
      simp (disch := first | omega | simp only [qI2, qL2, qC2, qF2]) only [gX12_longAt, ↓mH mS', ↓bind_of (md _), bIf, if_true]
  | true =>
    have hd : ∀ M : zM, gX11_isDays S a1 M = some (bI true) := fun M => by rw [e_isDays, h]
    have md : ∀ M : zM, gX12_isAhead S a1 M = some (bI true) := fun M => by rw [e_isAhead, h]
    obtain ⟨n, hn, rfl⟩ := inD_ex h
    obtain ⟨M1, e1, e2, e3⟩ := c_try (n := n + 1) hS hR ht h03 hV wE hK wK (by omega)
    generalize hK' : dysS E (moN E) (n + 1) K = K' at *
    have D := cD hS hR
    have D1 := cD e2.1.1.1 e2.1.1.2.1
    have N1 := cT e2.1.1.1 e2.1.1.2.1
    have v9 := e2.2.1.1.2.2.2.2.2.2.2.2.2.1
    have v4 := e2.2.1.1.2.2.2.2.1
    have e1' : gX11_tryDays S 0 (nI n + 1) M = some M1 := by rw [nI_1]; exact e1
    refine ⟨if oI (kBy K') = -1 then -2 else kLa K', M1, ?_, cRun_fr hR e2, ?_⟩
    · simp (disch := first | omega | simp only [qI2, qL2, qC2, qF2]) only [gX11_longAt, ↓bind_of (hd M), if_neg bIt, ↓D, ↓bind_of e1', ↓D1, ↓N1, v9, v4]
      split <;> rfl
    · skip
      intro M' hm
      have hm2 : mIx S M' E K im st no tp fl := hm
      obtain ⟨mS', mE, mK, mim, mst, mno, mtp, mfl, mmd⟩ := id hm2
      obtain ⟨M3, f1, f2, f3⟩ := m_begin wE hm2
      obtain ⟨M4, g1, g2⟩ := m_goes (n := n + 1) rfl f2 wK (by omega)
      rw [hK'] at g2
      have g1' : gX12_goesOn S 306 (nI n + 1) M3 = some M4 := by rw [nI_1]; exact g1
      refine ⟨M4, ?_, g2.2.2⟩
      have w9 := g2.2.1.1.2.2.2.2.2.2.2
      have w4 := g2.2.1.1.2.2.2.2.2.2.1
      simp (disch := first | omega | simp only [qI2, qL2, qC2, qF2]) only [gX12_longAt, ↓mH mS', ↓bind_of (md _), if_neg bIt, ↓bind_of f1, ↓mH f2.1.1, ↓bind_of g1', ↓mH g2.1.1, ↓mL g2.1.1, w9, w4]
      split <;> rfl
theorem P_missing : zP_missing zInv := by
  intro S M hM a1
  refine zq (f := gX11_missing S 0 a1) (g := gX12_missing S 306 a1) ?_ M hM
  intro A M hw hc
  obtain ⟨t, E, K, le, im, st, no, tp, fl⟩ := A
  have hc2 : cIx S M t E K le im st no tp fl := hc
  have hw2 : aWx E K im st no tp fl := hw
  obtain ⟨⟨hS, hR, ht, h03, h04⟩, hV, hK, him, hst, hno, htp, hfl⟩ := hc2
  obtain ⟨wE, wK, wim, wst, wno, wtp, wfl⟩ := hw2
  have hT6 := wE.1
  have hP12 := wE.2.1
  have hW5 := wE.2.2.2.1
  have T0 := pTs_of hS hR t (Or.inr ht)
  have N0 := pSs_of hS hR 107 (by decide)
  have gT : ∀ (ρ : Type) (M' : zM) (f : Nat → Option ρ), M'.2.2 = M.2.2 → zgR S M' 0 11 14 3 f = f t := fun ρ M' f h => zgR_of ((hS 0 (by decide)).trans rfl) h03 M' f h
  cases h : inD a1 with
  | false =>
    have hd : ∀ M : zM, gX11_isDays S a1 M = some (bI false) := fun M => by rw [e_isDays, h]
    have md : ∀ M : zM, gX12_isAhead S a1 M = some (bI false) := fun M => by rw [e_isAhead, h]
    refine ⟨-1, M, ?_, cFr.refl' hR, ?_⟩
    · simp only [gX11_missing, ↓bind_of (hd M), bIf, if_true]
    · skip
      intro M' hm
      have hm2 : mIx S M' E K im st no tp fl := hm
      obtain ⟨mS', mE, mK, mim, mst, mno, mtp, mfl, mmd⟩ := id hm2
      refine ⟨_, ?_, th0 M' 0⟩
      simp (disch := first | omega | simp only [qI2, qL2, qC2, qF2]) only [gX12_missing, ↓mH mS', ↓bind_of (md _), bIf, if_true]
  | true =>
    have hd : ∀ M : zM, gX11_isDays S a1 M = some (bI true) := fun M => by rw [e_isDays, h]
    have md : ∀ M : zM, gX12_isAhead S a1 M = some (bI true) := fun M => by rw [e_isAhead, h]
    obtain ⟨n, hn, rfl⟩ := inD_ex h
    obtain ⟨M1, e1, e2, e3⟩ := c_try (n := n) hS hR ht h03 hV wE hK wK (by omega)
    generalize hK' : dysS E (moN E) n K = K' at *
    have D := cD hS hR
    have D1 := cD e2.1.1.1 e2.1.1.2.1
    have T1 := cT e2.1.1.1 e2.1.1.2.1
    have N1 := cN e2.1.1.1 e2.1.1.2.1
    have v7 := e2.2.1.1.2.2.2.2.2.2.2.1
    have u7 : M1.1 107 7 = kDa K := by rw [e2.2.2.2 107 7 (by omega)]; exact hK.1.2.2.2.2.2.2.2.1
    refine ⟨kDa K' - kDa K, M1, ?_, cRun_fr hR e2, ?_⟩
    · simp (disch := first | omega | simp only [qI2, qL2, qC2, qF2]) only [gX11_missing, ↓bind_of (hd M), if_neg bIt, ↓D, ↓bind_of e1, ↓D1, ↓T1, ↓N1, v7, u7]
    · skip
      intro M' hm
      have hm2 : mIx S M' E K im st no tp fl := hm
      obtain ⟨mS', mE, mK, mim, mst, mno, mtp, mfl, mmd⟩ := id hm2
      obtain ⟨M3, f1, f2, f3⟩ := m_begin wE hm2
      obtain ⟨M4, g1, g2⟩ := m_goes (n := n) rfl f2 wK (by omega)
      rw [hK'] at g2
      refine ⟨M4, ?_, g2.2.2⟩
      have w7 := g2.2.1.1.2.2.2.2.2.1
      have x7 : M4.1 329 0 = kDa K := by rw [g2.2.2.2 329 0 (by unfold mQ; omega)]; exact mK.1.2.2.2.2.2.1
      simp (disch := first | omega | simp only [qI2, qL2, qC2, qF2]) only [gX12_missing, ↓mH mS', ↓bind_of (md _), if_neg bIt, ↓bind_of f1, ↓mH f2.1.1, ↓bind_of g1, ↓mH g2.1.1, ↓mL g2.1.1, w7, x7]
theorem addsub (a b : Int32) : a + b - a = b := by
  rw [Int32.add_comm, Int32.add_sub_cancel]
theorem P_ahead : zP_ahead zInv := by
  intro S M hM a1 a2 a3
  refine zq (f := gX11_ahead S 0 a1 a2 a3) (g := gX12_ahead S 306 a1 a2 a3) ?_ M hM
  intro A M hw hc
  obtain ⟨t, E, K, le, im, st, no, tp, fl⟩ := A
  have hc2 : cIx S M t E K le im st no tp fl := hc
  have hw2 : aWx E K im st no tp fl := hw
  obtain ⟨⟨hS, hR, ht, h03, h04⟩, hV, hK, him, hst, hno, htp, hfl⟩ := hc2
  obtain ⟨wE, wK, wim, wst, wno, wtp, wfl⟩ := hw2
  have hT6 := wE.1
  have hP12 := wE.2.1
  have hW5 := wE.2.2.2.1
  have T0 := pTs_of hS hR t (Or.inr ht)
  have N0 := pSs_of hS hR 107 (by decide)
  have gT : ∀ (ρ : Type) (M' : zM) (f : Nat → Option ρ), M'.2.2 = M.2.2 → zgR S M' 0 11 14 3 f = f t := fun ρ M' f h => zgR_of ((hS 0 (by decide)).trans rfl) h03 M' f h
  have D := cD hS hR
  cases h : inD a1 with
  | false =>
    have hd : ∀ M : zM, gX11_isDays S a1 M = some (bI false) := fun M => by rw [e_isDays, h]
    have md : ∀ M : zM, gX12_isAhead S a1 M = some (bI false) := fun M => by rw [e_isAhead, h]
    refine ⟨-1, M, ?_, cFr.refl' hR, ?_⟩
    · simp only [gX11_ahead, ↓bind_of (hd M), bIf, if_true]
    · skip
      intro M' hm
      have hm2 : mIx S M' E K im st no tp fl := hm
      obtain ⟨mS', mE, mK, mim, mst, mno, mtp, mfl, mmd⟩ := id hm2
      refine ⟨_, ?_, th0 M' 0⟩
      simp (disch := first | omega | simp only [qI2, qL2, qC2, qF2]) only [gX12_ahead, ↓mH mS', ↓bind_of (md _), bIf, if_true]
  | true =>
    have hd : ∀ M : zM, gX11_isDays S a1 M = some (bI true) := fun M => by rw [e_isDays, h]
    have md : ∀ M : zM, gX12_isAhead S a1 M = some (bI true) := fun M => by rw [e_isAhead, h]
    obtain ⟨n, hn, rfl⟩ := inD_ex h
    by_cases c0 : a2 < 0
    · refine ⟨-1, M, ?_, cFr.refl' hR, ?_⟩
      · simp only [gX11_ahead, ↓bind_of (hd M), if_neg bIt, ↓if_pos c0]
      · skip
        intro M' hm
        have hm2 : mIx S M' E K im st no tp fl := hm
        obtain ⟨mS', mE, mK, mim, mst, mno, mtp, mfl, mmd⟩ := id hm2
        refine ⟨_, ?_, th0 M' 0⟩
        simp (disch := first | omega | simp only [qI2, qL2, qC2, qF2]) only [gX12_ahead, ↓mH mS', ↓bind_of (md _), if_neg bIt, ↓if_pos c0]
    by_cases c1 : (4 : Int32) < a2
    · refine ⟨-1, M, ?_, cFr.refl' hR, ?_⟩
      · simp only [gX11_ahead, ↓bind_of (hd M), if_neg bIt, ↓if_neg c0, ↓if_pos c1]
      · skip
        intro M' hm
        have hm2 : mIx S M' E K im st no tp fl := hm
        obtain ⟨mS', mE, mK, mim, mst, mno, mtp, mfl, mmd⟩ := id hm2
        refine ⟨_, ?_, th0 M' 0⟩
        simp (disch := first | omega | simp only [qI2, qL2, qC2, qF2]) only [gX12_ahead, ↓mH mS', ↓bind_of (md _), if_neg bIt, ↓if_neg c0, ↓if_pos c1]
    obtain ⟨M1, e1, e2, e3⟩ := c_try (n := n) hS hR ht h03 hV wE hK wK (by omega)
    have hrc : ∀ (ρ : Type) (o : Option ρ), zrc S t 10 18 o = o := fun ρ o => zrc_ok T0.1
    have hgi : ∀ (j : Nat) (f : Int32 → Option (Int32 × zM)), zgI S M1 t 10 18 j f = f (M1.1 t j) := fun j f => zgI_ok T0.1
    have hle : left E (dysS E (moN E) n K) ≤ eW E := lfN_le _ _ _ _
    have u0 : M1.1 t 10 = nI (eW E) := by rw [e2.2.2.2 t 10 (by omega)]; exact hV.1.2.2.2.1
    have gT1 : ∀ (f : Nat → Option (Int32 × zM)), zgR S M1 0 11 14 3 f = f t := fun f => zgR_of ((hS 0 (by decide)).trans rfl) e2.1.1.2.2.2.2 M1 f rfl
    generalize hK' : dysS E (moN E) n K = K' at *
    have D1 := cD e2.1.1.1 e2.1.1.2.1
    have T1 := cT e2.1.1.1 e2.1.1.2.1
    have N1 := cN e2.1.1.1 e2.1.1.2.1
    have v5 := e2.2.1.1.2.2.2.2.2.1
    have v6 := e2.2.1.1.2.2.2.2.2.2.1
    have v7 := e2.2.1.1.2.2.2.2.2.2.2.1
    have v8 := e2.2.1.1.2.2.2.2.2.2.2.2.1
    have u6 : M1.1 107 6 = kMi K := by rw [e2.2.2.2 107 6 (by omega)]; exact hK.1.2.2.2.2.2.2.1
    have u7 : M1.1 107 7 = kDa K := by rw [e2.2.2.2 107 7 (by omega)]; exact hK.1.2.2.2.2.2.2.2.1
    have u8 : M1.1 107 8 = le := by rw [e2.2.2.2 107 8 (by omega)]; exact hK.1.2.2.2.2.2.2.2.2.1
    have cst : gX11_ahead_34 S 0 (nI n) a2 a3 M = (if a2 = (0 : Int32) then some (nI (eW E) - nI (left E K'), M1) else if a2 = (1 : Int32) then (gX5_get S 119 a3 M1).bind (fun v => some (v, M1)) else if a2 = (2 : Int32) then some (kDa K' - kDa K, M1) else if a2 = (3 : Int32) then some (kMi K' - kMi K, M1) else some (le + smL E (moN E) n K - le, M1)) := by
      simp (disch := first | omega | simp only [qI2, qL2, qC2, qF2]) only [gX11_ahead_34, ↓D, ↓bind_of e1, ↓D1, ↓T1, ↓N1, ↓gT1, ↓hgi, u0, v5, v6, v7, v8, u6, u7, u8]
    have mstep : ∀ M' : zM, mIx S M' E K im st no tp fl → ∃ M4, mRun S M' E (moN E) K' M4 ∧ gX12_ahead_36 S 306 (nI n) a2 a3 (zsI M' 306 0 0) = (if a2 = (0 : Int32) then some (nI (eW E - left E K'), M4) else if a2 = (1 : Int32) then zaI S M4 100 332 ((6 : Int32) + a3) (fun v => some (v, M4)) else if a2 = (2 : Int32) then some (kDa K' - kDa K, M4) else if a2 = (3 : Int32) then some (kMi K' - kMi K, M4) else some (smL E (moN E) n K, M4)) := fun M' hm2 => by
      obtain ⟨M3, f1, f2, f3⟩ := m_begin wE hm2
      obtain ⟨M4, g1, g2⟩ := m_lengths4 (mo := moN E) (n := n) rfl (by omega) hT6 n zfu 0 9800 0 K M3 f2 wK (by omega) (by omega) (by unfold zfu; omega)
      rw [hK', Int32.zero_add] at *
      have g1' : gX12_lengthsIn S 306 (nI n) M3 = some (smL E (moN E) n K, M4) := g1
      have w6 := g2.2.1.1.2.2.2.2.1
      have w7 := g2.2.1.1.2.2.2.2.2.1
      have x6 : M4.1 328 0 = kMi K := by rw [g2.2.2.2 328 0 (by unfold mQ; omega)]; exact hm2.2.2.1.1.2.2.2.2.1
      have x7 : M4.1 329 0 = kDa K := by rw [g2.2.2.2 329 0 (by unfold mQ; omega)]; exact hm2.2.2.1.1.2.2.2.2.2.1
      have dn : gX12_doneMany S 306 1 M4 = some (nI (eW E - left E K')) := e_doneMany (s := 1) g2.1.1 g2.1.2.1 g2.2.1 wE (fun w hw => Nat.lt_of_le_of_lt (e3.2.2.1 w hw) (by decide)) (by decide) M4 rfl rfl
      refine ⟨M4, g2, ?_⟩
      have hms := hm2.1
      simp (disch := first | omega | simp only [qI2, qL2, qC2, qF2]) only [gX12_ahead_36, ↓mH hms, ↓bind_of f1, ↓mH f2.1.1, ↓zb2_of g1', ↓mH g2.1.1, ↓mL g2.1.1, ↓bind_of dn, w6, w7, x6, x7]
    by_cases c2 : a2 = 1
    · subst c2
      have hp := e_hasTrade (M := M) (x := a3) T0.1 hV.1.1
      have mp : ∀ M' : zM, mIx S M' E K im st no tp fl → gX12_isTrade S 306 a3 (zsI M' 306 0 0) = some (bI (inR (eT E) a3)) := fun M' hm => e_isTrade (M := zsI M' 306 0 0) hm.1 ((zsI_ne (by omega)).trans hm.2.1.1.1)
      have n0 : ¬ (1 : Int32) = 0 := by decide
      cases h3 : inR (eT E) a3 with
      | false =>
        rw [h3] at hp mp
        refine ⟨-1, M, ?_, cFr.refl' hR, ?_⟩
        · simp (disch := first | omega | simp only [qI2, qL2, qC2, qF2]) only [gX11_ahead, ↓bind_of (hd M), if_neg bIt, ↓if_neg c0, ↓if_neg c1, if_true, ↓gT, ↓hrc, ↓bind_of hp, bIf]
        · skip
          intro M' hm
          have hm2 : mIx S M' E K im st no tp fl := hm
          obtain ⟨mS', mE, mK, mim, mst, mno, mtp, mfl, mmd⟩ := id hm2
          refine ⟨_, ?_, th0 M' 0⟩
          simp (disch := first | omega | simp only [qI2, qL2, qC2, qF2]) only [gX12_ahead, ↓mH mS', ↓bind_of (md _), if_neg bIt, ↓if_neg c0, ↓if_neg c1, if_true, ↓bind_of (mp M' hm), bIf]
      | true =>
        rw [h3] at hp mp
        obtain ⟨j, hj, rfl⟩ := inR_ex (by omega) h3
        have vk : M1.1 120 j = kKn K' j := (e2.2.1.2.2.1 j (by omega)).1
        refine ⟨kKn K' j, M1, ?_, cRun_fr hR e2, ?_⟩
        · simp (disch := first | omega | simp only [qI2, qL2, qC2, qF2]) only [gX11_ahead, ↓bind_of (hd M), if_neg bIt, ↓if_neg c0, ↓if_neg c1, if_true, ↓gT, ↓hrc, ↓bind_of hp, cst, if_neg n0]
          simp (disch := first | omega | simp only [qI2, qL2, qC2, qF2]) only [↓T1, vk]
        · skip
          intro M' hm
          have hm2 : mIx S M' E K im st no tp fl := hm
          obtain ⟨mS', mE, mK, mim, mst, mno, mtp, mfl, mmd⟩ := id hm2
          obtain ⟨M4, g2, g3⟩ := mstep M' hm2
          refine ⟨M4, ?_, g2.2.2⟩
          have wk := (g2.2.1.2.1 j (by omega)).1
          simp (disch := first | omega | simp only [qI2, qL2, qC2, qF2]) only [gX12_ahead, ↓mH mS', ↓bind_of (md _), if_neg bIt, ↓if_neg c0, ↓if_neg c1, if_true, ↓bind_of (mp M' hm), g3, if_neg n0]
          rw [li6, nI_add]
          rw [zaI_ok (pMg g2.1.1 41 332 100 180 (by decide)).2 (by omega) (by decide)]
          rw [show 6 + j = 6 * 1 + j by omega, wk]
    · refine ⟨if a2 = (0 : Int32) then nI (eW E - left E K') else if a2 = (2 : Int32) then kDa K' - kDa K else if a2 = (3 : Int32) then kMi K' - kMi K else smL E (moN E) n K, M1, ?_, cRun_fr hR e2, ?_⟩
      · simp (disch := first | omega | simp only [qI2, qL2, qC2, qF2]) only [gX11_ahead, ↓bind_of (hd M), if_neg bIt, ↓if_neg c0, ↓if_neg c1, if_neg c2, cst, addsub, pk_sub hle]
        split
        · rfl
        split
        · rfl
        split <;> rfl
      · skip
        intro M' hm
        have hm2 : mIx S M' E K im st no tp fl := hm
        obtain ⟨mS', mE, mK, mim, mst, mno, mtp, mfl, mmd⟩ := id hm2
        obtain ⟨M4, g2, g3⟩ := mstep M' hm2
        refine ⟨M4, ?_, g2.2.2⟩
        simp (disch := first | omega | simp only [qI2, qL2, qC2, qF2]) only [gX12_ahead, ↓mH mS', ↓bind_of (md _), if_neg bIt, ↓if_neg c0, ↓if_neg c1, if_neg c2, g3]
        split
        · rfl
        split
        · rfl
        split <;> rfl
