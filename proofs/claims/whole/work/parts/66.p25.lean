/-! pure part 25: small calls -/
theorem bIf : bI false = 0 := rfl
theorem bIt : ¬ bI true = 0 := by decide
theorem th0 (M : zM) (x : Int32) : fr mQ M (zsI M 306 0 x) := fr.refl.sI (Or.inl ⟨rfl, Or.inl rfl⟩)
theorem P_fault : zP_fault zInv := by
  intro S M hM a1
  refine zp (f := gX11_fault S 0 a1) (g := gX12_fault S 306 a1) ?_ M hM
  intro A M hw hc
  obtain ⟨t, E, K, le, im, st, no, tp, fl⟩ := A
  have hc2 : cIx S M t E K le im st no tp fl := hc
  have hw2 : aWx E K im st no tp fl := hw
  obtain ⟨⟨hS, hR, ht, h03, h04⟩, hV, hK, him, hst, hno, htp, hfl⟩ := hc2
  obtain ⟨wE, wK, wim, wst, wno, wtp, wfl⟩ := hw2
  have hT6 := wE.1
  have hP12 := wE.2.1
  have hW5 := wE.2.2.2.1
  have T0 := pTs_of hS hR t (Or.inr ht)
  have N0 := pSs_of hS hR 107 (by decide)
  have gT : ∀ (ρ : Type) (M' : zM) (f : Nat → Option ρ), M'.2.2 = M.2.2 → zgR S M' 0 11 14 3 f = f t := fun ρ M' f h => zgR_of ((hS 0 (by decide)).trans rfl) h03 M' f h
  have D := cD hS hR
  have Q := cP hS hR
  by_cases h0 : a1 = 0
  · subst h0
    refine ⟨nI fl.1, ?_, ?_⟩
    · simp (disch := first | omega | simp only [qI2, qL2, qC2, qF2]) only [gX11_fault, ↓D, ↓Q, hfl.1, if_true]
    · skip
      intro M' hm
      have hm2 : mIx S M' E K im st no tp fl := hm
      obtain ⟨mS', mE, mK, mim, mst, mno, mtp, mfl, mmd⟩ := hm2
      refine ⟨_, ?_, th0 M' 0⟩
      simp (disch := first | omega | simp only [qI2, qL2, qC2, qF2]) only [gX12_fault, ↓mH mS', zsI_ne, mfl.1, if_true]
  by_cases h1 : a1 = 1
  · subst h1
    have hn : ¬ (1 : Int32) = 0 := by decide
    refine ⟨if fl.1 = 0 then -1 else fl.2, ?_, ?_⟩
    · simp (disch := first | omega | simp only [qI2, qL2, qC2, qF2]) only [gX11_fault, if_neg hn, ↓D, ↓Q, hfl.1, hfl.2.1, if_true]
      by_cases h : fl.1 = 0
      · rw [if_pos h, h]; exact if_pos rfl
      · rw [if_neg h, if_neg (fun h2 => h ((nI_0e (by omega)).mp h2))]
    · skip
      intro M' hm
      have hm2 : mIx S M' E K im st no tp fl := hm
      obtain ⟨mS', mE, mK, mim, mst, mno, mtp, mfl, mmd⟩ := hm2
      refine ⟨_, ?_, th0 M' 0⟩
      simp (disch := first | omega | simp only [qI2, qL2, qC2, qF2]) only [gX12_fault, if_neg hn, ↓mH mS', zsI_ne, mfl.2, if_true]
  · refine ⟨-1, ?_, ?_⟩
    · simp only [gX11_fault, if_neg h0, if_neg h1]
    · skip
      intro M' hm
      have hm2 : mIx S M' E K im st no tp fl := hm
      obtain ⟨mS', mE, mK, mim, mst, mno, mtp, mfl, mmd⟩ := hm2
      refine ⟨_, ?_, th0 M' 0⟩
      simp (disch := first | omega | simp only [qI2, qL2, qC2, qF2]) only [gX12_fault, if_neg h0, if_neg h1, ↓mH mS']
theorem P_named : zP_named zInv := by
  intro S M hM a1 a2
  refine zp (f := gX11_named S 0 a1 a2) (g := gX12_named S 306 a1 a2) ?_ M hM
  intro A M hw hc
  obtain ⟨t, E, K, le, im, st, no, tp, fl⟩ := A
  have hc2 : cIx S M t E K le im st no tp fl := hc
  have hw2 : aWx E K im st no tp fl := hw
  obtain ⟨⟨hS, hR, ht, h03, h04⟩, hV, hK, him, hst, hno, htp, hfl⟩ := hc2
  obtain ⟨wE, wK, wim, wst, wno, wtp, wfl⟩ := hw2
  have hT6 := wE.1
  have hP12 := wE.2.1
  have hW5 := wE.2.2.2.1
  have T0 := pTs_of hS hR t (Or.inr ht)
  have N0 := pSs_of hS hR 107 (by decide)
  have gT : ∀ (ρ : Type) (M' : zM) (f : Nat → Option ρ), M'.2.2 = M.2.2 → zgR S M' 0 11 14 3 f = f t := fun ρ M' f h => zgR_of ((hS 0 (by decide)).trans rfl) h03 M' f h
  have F := tG T0
  have r1 := T0.2.2.2.2.2.2.2.2.2.2.2.2.1
  have r13 := T0.2.2.2.2.2.2.2.2.2.2.2.2.2.2.2.2.2.2.1
  have hrc : ∀ (o : Option Int32), zrc S t 10 18 o = o := fun o => zrc_ok T0.1
  by_cases h0 : a1 = 0
  · subst h0
    have cf : gX10_find S (t + 1) (nI (eT E)) a2 M = some (oI (fnd (eTn E) a2 (eT E) 0)) := by
      rw [e_find r1 hT6]
      congr 2
      exact fnd_cg (fun j _ h => (hV.2.1 j (by omega)).1)
    refine ⟨oI (fnd (eTn E) a2 (eT E) 0), ?_, ?_⟩
    · simp (disch := first | omega | simp only [qI2, qL2, qC2, qF2]) only [gX11_named, if_true, ↓gT, ↓hrc, gX10_tradeNamed, ↓F, hV.1.1, ↓bind_of cf]
      rfl
    · skip
      intro M' hm
      have hm2 : mIx S M' E K im st no tp fl := hm
      obtain ⟨mS', mE, mK, mim, mst, mno, mtp, mfl, mmd⟩ := hm2
      refine ⟨_, ?_, th0 M' 0⟩
      have mf : gX12_found S 309 0 (nI (eT E)) a2 (zsI M' 306 0 0) = some (oI (fnd (eTn E) a2 (eT E) 0)) := by
        refine (e_found (a := 0) (M := zsI M' 306 0 0) (pMg mS' 4 309 100 12 (by decide)).2 (by decide) (by omega)).trans ?_
        congr 2
        refine fnd_cg (fun j _ h => ?_)
        rw [zsI_ne (by omega), Nat.zero_add]
        exact (mE.2.1 j (by omega)).1
      simp (disch := first | omega | simp only [qI2, qL2, qC2, qF2]) only [gX12_named, ↓mH mS', ↓mL mS', zsI_ne, mE.1.1, if_true, ↓bind_of mf]
  by_cases h1 : a1 = 1
  · subst h1
    have hn : ¬ (1 : Int32) = 0 := by decide
    have cf : gX10_find S (t + 13) (nI (eW E)) a2 M = some (oI (fnd (eWn E) a2 (eW E) 0)) := by
      rw [e_find r13 hW5]
      congr 2
      exact fnd_cg (fun j _ h => (hV.2.2.2.2.1 j (by omega)).1)
    refine ⟨oI (fnd (eWn E) a2 (eW E) 0), ?_, ?_⟩
    · simp (disch := first | omega | simp only [qI2, qL2, qC2, qF2]) only [gX11_named, if_true, if_neg hn, ↓gT, ↓hrc, gX10_workNamed, ↓F, hV.1.2.2.2.1, ↓bind_of cf]
      rfl
    · skip
      intro M' hm
      have hm2 : mIx S M' E K im st no tp fl := hm
      obtain ⟨mS', mE, mK, mim, mst, mno, mtp, mfl, mmd⟩ := hm2
      refine ⟨_, ?_, th0 M' 0⟩
      have mf : gX12_found S 314 0 (nI (eW E)) a2 (zsI M' 306 0 0) = some (oI (fnd (eWn E) a2 (eW E) 0)) := by
        refine (e_found (a := 0) (M := zsI M' 306 0 0) (pMg mS' 9 314 100 10 (by decide)).2 (by decide) (by omega)).trans ?_
        congr 2
        refine fnd_cg (fun j _ h => ?_)
        rw [zsI_ne (by omega), Nat.zero_add]
        exact (mE.2.2.2.2.1 j (by omega)).1
      simp (disch := first | omega | simp only [qI2, qL2, qC2, qF2]) only [gX12_named, ↓mH mS', ↓mL mS', zsI_ne, mE.1.2.2.2.1, if_true, if_neg hn, ↓bind_of mf]
  · refine ⟨-1, ?_, ?_⟩
    · simp only [gX11_named, if_neg h0, if_neg h1]
    · skip
      intro M' hm
      have hm2 : mIx S M' E K im st no tp fl := hm
      obtain ⟨mS', mE, mK, mim, mst, mno, mtp, mfl, mmd⟩ := hm2
      refine ⟨_, ?_, th0 M' 0⟩
      simp (disch := first | omega | simp only [qI2, qL2, qC2, qF2]) only [gX12_named, if_neg h0, if_neg h1, ↓mH mS']
theorem P_place : zP_place zInv := by
  intro S M hM a1
  refine zp (f := gX11_place S 0 a1) (g := gX12_place S 306 a1) ?_ M hM
  intro A M hw hc
  obtain ⟨t, E, K, le, im, st, no, tp, fl⟩ := A
  have hc2 : cIx S M t E K le im st no tp fl := hc
  have hw2 : aWx E K im st no tp fl := hw
  obtain ⟨⟨hS, hR, ht, h03, h04⟩, hV, hK, him, hst, hno, htp, hfl⟩ := hc2
  obtain ⟨wE, wK, wim, wst, wno, wtp, wfl⟩ := hw2
  have hT6 := wE.1
  have hP12 := wE.2.1
  have hW5 := wE.2.2.2.1
  have T0 := pTs_of hS hR t (Or.inr ht)
  have N0 := pSs_of hS hR 107 (by decide)
  have gT : ∀ (ρ : Type) (M' : zM) (f : Nat → Option ρ), M'.2.2 = M.2.2 → zgR S M' 0 11 14 3 f = f t := fun ρ M' f h => zgR_of ((hS 0 (by decide)).trans rfl) h03 M' f h
  have D := cD hS hR
  have N := cN hS hR
  have hp := e_hasPlace (M := M) (x := a1) N0.1 hK.1.2.2.2.2.2.2.2.2.2.2
  have mp : ∀ M' : zM, mIx S M' E K im st no tp fl → gX12_isPlace S 306 a1 (zsI M' 306 0 0) = some (bI (inR (eP E) a1)) := fun M' hm => e_isPlace (M := zsI M' 306 0 0) hm.1 ((zsI_ne (by omega)).trans hm.2.1.1.2.1)
  cases h : inR (eP E) a1 with
  | false =>
    rw [h] at hp mp
    refine ⟨-1, ?_, ?_⟩
    · simp (disch := first | omega | simp only [qI2, qL2, qC2, qF2]) only [gX11_place, ↓D, ↓N, ↓bind_of hp, bIf, if_true]
    · skip
      intro M' hm
      have hm2 : mIx S M' E K im st no tp fl := hm
      obtain ⟨mS', mE, mK, mim, mst, mno, mtp, mfl, mmd⟩ := hm2
      refine ⟨_, ?_, th0 M' 0⟩
      simp (disch := first | omega | simp only [qI2, qL2, qC2, qF2]) only [gX12_place, ↓mH mS', ↓bind_of (mp M' hm), bIf, if_true]
  | true =>
    rw [h] at hp mp
    obtain ⟨j, hj, rfl⟩ := inR_ex (by omega) h
    refine ⟨nI (kLs K j), ?_, ?_⟩
    · have h1 : M.1 109 j = nI (kLs K j) := hK.2.1 j hj
      simp (disch := first | omega | simp only [qI2, qL2, qC2, qF2]) only [gX11_place, ↓D, ↓N, ↓bind_of hp, if_neg bIt, h1]
    · skip
      intro M' hm
      have hm2 : mIx S M' E K im st no tp fl := hm
      obtain ⟨mS', mE, mK, mim, mst, mno, mtp, mfl, mmd⟩ := hm2
      refine ⟨_, ?_, th0 M' 0⟩
      have h1 : M'.1 334 j = nI (kLs K j) := by have := mK.2.2.1 j hj; rw [show 12 * 0 + j = j by omega] at this; exact this
      simp (disch := first | omega | simp only [qI2, qL2, qC2, qF2]) only [gX12_place, ↓mH mS', ↓mG mS', ↓bind_of (mp M' hm), if_neg bIt, zsI_ne, h1]
theorem P_work : zP_work zInv := by
  intro S M hM a1 a2
  refine zp (f := gX11_work S 0 a1 a2) (g := gX12_work S 306 a1 a2) ?_ M hM
  intro A M hw hc
  obtain ⟨t, E, K, le, im, st, no, tp, fl⟩ := A
  have hc2 : cIx S M t E K le im st no tp fl := hc
  have hw2 : aWx E K im st no tp fl := hw
  obtain ⟨⟨hS, hR, ht, h03, h04⟩, hV, hK, him, hst, hno, htp, hfl⟩ := hc2
  obtain ⟨wE, wK, wim, wst, wno, wtp, wfl⟩ := hw2
  have hT6 := wE.1
  have hP12 := wE.2.1
  have hW5 := wE.2.2.2.1
  have T0 := pTs_of hS hR t (Or.inr ht)
  have N0 := pSs_of hS hR 107 (by decide)
  have gT : ∀ (ρ : Type) (M' : zM) (f : Nat → Option ρ), M'.2.2 = M.2.2 → zgR S M' 0 11 14 3 f = f t := fun ρ M' f h => zgR_of ((hS 0 (by decide)).trans rfl) h03 M' f h
  have D := cD hS hR
  have N := cN hS hR
  have F := tG T0
  have hrc : ∀ (o : Option Int32), zrc S t 10 18 o = o := fun o => zrc_ok T0.1
  have hp := e_hasWork (M := M) (x := a1) T0.1 hV.1.2.2.2.1
  have mp : ∀ M' : zM, mIx S M' E K im st no tp fl → gX12_isWork S 306 a1 (zsI M' 306 0 0) = some (bI (inR (eW E) a1)) := fun M' hm => e_isWork (M := zsI M' 306 0 0) hm.1 ((zsI_ne (by omega)).trans hm.2.1.1.2.2.2.1)
  cases h : inR (eW E) a1 with
  | false =>
    rw [h] at hp mp
    refine ⟨-1, ?_, ?_⟩
    · simp (disch := first | omega | simp only [qI2, qL2, qC2, qF2]) only [gX11_work, ↓D, ↓N, ↓gT, ↓hrc, ↓bind_of hp, bIf, if_true]
    · skip
      intro M' hm
      have hm2 : mIx S M' E K im st no tp fl := hm
      obtain ⟨mS', mE, mK, mim, mst, mno, mtp, mfl, mmd⟩ := hm2
      refine ⟨_, ?_, th0 M' 0⟩
      simp (disch := first | omega | simp only [qI2, qL2, qC2, qF2]) only [gX12_work, ↓mH mS', ↓bind_of (mp M' hm), bIf, if_true]
  | true =>
    rw [h] at hp mp
    obtain ⟨j, hj, rfl⟩ := inR_ex (by omega) h
    obtain ⟨-, v1, v2, v3⟩ := hV.2.2.2.2.1 j hj
    have v4 : M.1 115 j = nI (kWt K j) := hK.2.2.2 j (by omega)
    refine ⟨if a2 = 0 then eLo E j else if a2 = 1 then eHi E j else if a2 = 2 then nI (eNd E j) else if a2 = 3 then nI (kWt K j) else -1, ?_, ?_⟩
    · simp (disch := first | omega | simp only [qI2, qL2, qC2, qF2]) only [gX11_work, ↓D, ↓N, ↓F, ↓gT, ↓hrc, ↓bind_of hp, if_neg bIt, v1, v2, v3, v4]
      split
      · rfl
      split
      · rfl
      split
      · rfl
      split <;> rfl
    · skip
      intro M' hm
      have hm2 : mIx S M' E K im st no tp fl := hm
      obtain ⟨mS', mE, mK, mim, mst, mno, mtp, mfl, mmd⟩ := hm2
      refine ⟨_, ?_, th0 M' 0⟩
      obtain ⟨-, u1, u2, u3⟩ := mE.2.2.2.2.1 j hj
      have u4 : M'.1 335 j = nI (kWt K j) := by have := mK.2.2.2 j (by omega); rw [show 5 * 0 + j = j by omega] at this; exact this
      simp (disch := first | omega | simp only [qI2, qL2, qC2, qF2]) only [gX12_work, ↓mH mS', ↓mG mS', ↓bind_of (mp M' hm), if_neg bIt, zsI_ne, u1, u2, u3, u4]
      split
      · rfl
      split
      · rfl
      split
      · rfl
      split <;> rfl
