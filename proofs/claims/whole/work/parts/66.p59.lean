/-! pure part 59: P_best -/
def beV (q : Nat × (Nat → Nat)) (n j : Nat) : Int32 := if j = 6 then nI q.1 else if n ≤ j then -2 else nI (q.2 j)
theorem P_best : zP_best zInv := by
  intro S M hM a1 a2
  refine zq (f := gX11_best S 0 a1 a2) (g := gX12_best S 306 a1 a2) ?_ M hM
  intro A M hw hc
  obtain ⟨t, E, K, le, im, st, no, tp, fl⟩ := A
  have hc2 : cIx S M t E K le im st no tp fl := hc
  have hw2 : aWx E K im st no tp fl := hw
  obtain ⟨⟨hS, hR, ht, h03, h04⟩, hV, hK, him, hst, hno, htp, hfl⟩ := hc2
  obtain ⟨wE, wK, wim, wst, wno, wtp, wfl⟩ := hw2
  have hT6 := wE.1
  have hP12 := wE.2.1
  have hW5 := wE.2.2.2.1
  have T0 := pTs_of hS hR t (Or.inr ht)
  have N0 := pSs_of hS hR 107 (by decide)
  have gT : ∀ (ρ : Type) (M' : zM) (f : Nat → Option ρ), M'.2.2 = M.2.2 → zgR S M' 0 11 14 3 f = f t := fun ρ M' f h => zgR_of ((hS 0 (by decide)).trans rfl) h03 M' f h
  have D := cD hS hR
  have hgi : ∀ (ρ : Type) (j : Nat) (f : Int32 → Option ρ), zgI S M t 10 18 j f = f (M.1 t j) := fun ρ j f => zgI_ok T0.1
  by_cases g1 : a1 < 1
  · refine ⟨-1, M, ?_, cFr.refl' hR, ?_⟩
    · simp only [gX11_best, if_pos g1]
    · skip
      intro M' hm
      have hm2 : mIx S M' E K im st no tp fl := hm
      obtain ⟨mS', mE, mK, mim, mst, mno, mtp, mfl, mmd⟩ := id hm2
      refine ⟨_, ?_, th0 M' 0⟩
      simp (disch := first | omega | simp only [qI2, qL2, qC2, qF2]) only [gX12_best, ↓mH mS', if_pos g1]
  by_cases g2 : 6 < a1
  · refine ⟨-1, M, ?_, cFr.refl' hR, ?_⟩
    · simp only [gX11_best, if_neg g1, if_pos g2]
    · skip
      intro M' hm
      have hm2 : mIx S M' E K im st no tp fl := hm
      obtain ⟨mS', mE, mK, mim, mst, mno, mtp, mfl, mmd⟩ := id hm2
      refine ⟨_, ?_, th0 M' 0⟩
      simp (disch := first | omega | simp only [qI2, qL2, qC2, qF2]) only [gX12_best, ↓mH mS', if_neg g1, if_pos g2]
  by_cases g3 : a2 < 0
  · refine ⟨-1, M, ?_, cFr.refl' hR, ?_⟩
    · simp only [gX11_best, if_neg g1, if_neg g2, if_pos g3]
    · skip
      intro M' hm
      have hm2 : mIx S M' E K im st no tp fl := hm
      obtain ⟨mS', mE, mK, mim, mst, mno, mtp, mfl, mmd⟩ := id hm2
      refine ⟨_, ?_, th0 M' 0⟩
      simp (disch := first | omega | simp only [qI2, qL2, qC2, qF2]) only [gX12_best, ↓mH mS', if_neg g1, if_neg g2, if_pos g3]
  by_cases g4 : a2 ≤ 6
  rotate_left
  · refine ⟨-1, M, ?_, cFr.refl' hR, ?_⟩
    · simp only [gX11_best, if_neg g1, if_neg g2, if_neg g3, if_neg g4]
    · skip
      intro M' hm
      have hm2 : mIx S M' E K im st no tp fl := hm
      obtain ⟨mS', mE, mK, mim, mst, mno, mtp, mfl, mmd⟩ := id hm2
      refine ⟨_, ?_, th0 M' 0⟩
      simp (disch := first | omega | simp only [qI2, qL2, qC2, qF2]) only [gX12_best, ↓mH mS', if_neg g1, if_neg g2, if_neg g3, if_neg g4]
  have g10 : ¬ a1 < 0 := fun h => g1 (by
    rw [Int32.lt_iff_toInt_lt] at h ⊢
    rw [show (0 : Int32).toInt = 0 from by decide] at h
    rw [show (1 : Int32).toInt = 1 from by decide]
    omega)
  obtain ⟨n, hn, rfl⟩ := nI_of2 (M := 6) (n := 6) (by decide) g10 (Int32.not_lt.mp g2)
  obtain ⟨j, hj, rfl⟩ := nI_of2 (M := 6) (n := 6) (by decide) g3 g4
  have hn1 : 1 ≤ n := by
    rcases Nat.lt_or_ge n 1 with h | h
    · exact absurd (nI_lt (a := n) (b := 1) h (by decide)) g1
    · exact h
  have hTv : M.1 t 1 = nI (eT E) := hV.1.1
  by_cases hT0 : eT E = 0
  · have z0 : nI (eT E) = 0 := by rw [hT0]; rfl
    refine ⟨-2, M, ?_, cFr.refl' hR, ?_⟩
    · simp (disch := first | omega | simp only [qI2, qL2, qC2, qF2]) only [gX11_best, if_neg g1, if_neg g2, if_neg g3, if_pos g4, ↓gT, ↓hgi, hTv, if_pos z0]
    · skip
      intro M' hm
      have hm2 : mIx S M' E K im st no tp fl := hm
      obtain ⟨mS', mE, mK, mim, mst, mno, mtp, mfl, mmd⟩ := id hm2
      refine ⟨_, ?_, th0 M' 0⟩
      have hTm : M'.1 308 0 = nI (eT E) := mE.1.1
      simp (disch := first | omega | simp only [qI2, qL2, qC2, qF2]) only [gX12_best, ↓mH mS', if_neg g1, if_neg g2, if_neg g3, if_pos g4, ↓mL mS', zsI_ne, hTm, if_pos z0]
  have z0 : ¬ nI (eT E) = 0 := fun h => hT0 ((nI_0e (by omega)).1 h)
  obtain ⟨q, hq⟩ := lay_some (E := E) (by omega) n K (fun _ => 0) 0 none
  have run : ∀ M', mIx S M' E K im st no tp fl → ∃ M2 : zM, gX12_best S 306 (nI n) (nI j) M' = some (beV q n j, M2) ∧ fr mQ M' M2 := by
    intro M' hm
    have hm2 : mIx S M' E K im st no tp fl := hm
    obtain ⟨mS', mE, mK, mim, mst, mno, mtp, mfl, mmd⟩ := id hm2
    obtain ⟨M4, a1, a2, a3⟩ := m_copies (S := S) (M := zsI M' 306 0 0) (to := 23) (as := 0) (E := E) (K := K) mS' (by omega) (by omega) (by omega) hP12 (pMk_cg hP12 (fun a b q => zsI_ne (by unfold mS at q; omega)) mK)
    have a1' : gX12_copies S 306 23 0 (zsI M' 306 0 0) = some M4 := a1
    have mS4 : pMs S M4.2.2 := a3.1 ▸ mS'
    have hmo : mOk S M'.2.2 M'.1 E (moN E) := ⟨mS', mE, mo_now wE mmd, wE, moN_ok wE⟩
    have hm5 : mOk S (zsI M4 306 55 (-1)).2.2 (zsI M4 306 55 (-1)).1 E (moN E) := by
      have r : (zsI M4 306 55 (-1)).2.2 = M'.2.2 := a3.1
      rw [r]
      exact mOk_cg (fun a b q => by rw [zsI_ne (by omega), a3.2 a b (by unfold mS; omega), zsI_ne (by omega)]) hmo
    obtain ⟨M6, b1, b2, b3⟩ := m_lays (S := S) (E := E) (n := n) hn n 12 0 9800 K (fun _ => 0) none (zsI M4 306 55 (-1)) (by omega) (by omega) hm5 (pMk_cg hP12 (fun a b q => zsI_ne (by unfold mS at q; omega)) a2) wK (by omega) (fun j hj => by omega) ⟨zsI_at _ _ _ _, fun q hq => by cases hq⟩
    have b1' : gX12_lays S 12 306 0 (nI n) (zsI M4 306 55 (-1)) = some M6 := b1
    rw [hq] at b3
    obtain ⟨w1, w2⟩ := b3
    have w1' : M6.1 306 55 = nI q.1 := w1
    have w3 := (w2 q rfl).2
    have mS6 : pMs S M6.2.2 := by rw [b2.1]; exact mS4
    have hTm : M'.1 308 0 = nI (eT E) := mE.1.1
    refine ⟨M6, ?_, b2.1.trans a3.1, fun a b h => ?_⟩
    · by_cases j6 : j = 6
      · have j6' : nI j = 6 := by rw [j6]; rfl
        simp (disch := first | omega | simp only [qI2, qL2, qC2, qF2]) only [gX12_best, ↓mH mS', if_neg g1, if_neg g2, if_neg g3, if_pos g4, ↓mL mS', zsI_ne, hTm, if_neg z0, ↓bind_of a1', ↓mH mS4, ↓bind_of b1', if_pos j6', ↓mH mS6, w1']
        unfold beV
        rw [if_pos j6]
      · have j6' : ¬ nI j = 6 := fun h => j6 ((nI_eq (b := 6) (by omega) (by decide)).1 h)
        by_cases jn : n ≤ j
        · simp (disch := first | omega | simp only [qI2, qL2, qC2, qF2]) only [gX12_best, ↓mH mS', if_neg g1, if_neg g2, if_neg g3, if_pos g4, ↓mL mS', zsI_ne, hTm, if_neg z0, ↓bind_of a1', ↓mH mS4, ↓bind_of b1', if_neg j6', nI_leI, if_pos jn]
          unfold beV
          rw [if_neg j6, if_pos jn]
        · have w4 := w3 j (by omega)
          simp (disch := first | omega | simp only [qI2, qL2, qC2, qF2]) only [gX12_best, ↓mH mS', if_neg g1, if_neg g2, if_neg g3, if_pos g4, ↓mL mS', zsI_ne, hTm, if_neg z0, ↓bind_of a1', ↓mH mS4, ↓bind_of b1', if_neg j6', nI_leI, if_neg jn, ↓mH mS6, ↓mG mS6, w4]
          unfold beV
          rw [if_neg j6, if_neg jn]
    · unfold mQ at h
      rw [b2.2 a b (by unfold mLq; omega), zsI_ne (by omega), a3.2 a b (by unfold mS; omega), zsI_ne (by omega)]
  by_cases hc3 : n ≤ j ∧ ¬ j = 6
  · obtain ⟨jn, j6⟩ := hc3
    have c1 : ¬ j < n := by omega
    have c2 : ¬ (6 : Int32) ≤ nI j := fun h => absurd ((nI_leI (a := 6) (by decide) (by omega)).1 h) (by omega)
    refine ⟨beV q n j, M, ?_, cFr.refl' hR, run⟩
    unfold beV
    rw [if_neg j6, if_pos jn]
    simp (disch := first | omega | simp only [qI2, qL2, qC2, qF2]) only [gX11_best, if_neg g1, if_neg g2, if_neg g3, if_pos g4, ↓gT, ↓hgi, hTv, if_neg z0, nI_ltI, if_neg c1, if_neg c2]
  · obtain ⟨M1, a1, a2, a3, a4⟩ := c_goesOf hS hR ht h03 hV wE
    obtain ⟨⟨-, b2, -, b4, b5⟩, b6, b7, -, -⟩ := id a2
    have D1 := cD hS b2
    have gT1 : ∀ (ρ : Type) (f : Nat → Option ρ), zgR S M1 0 11 14 3 f = f t := fun ρ f => zgR_ok ((hS 0 (by decide)).trans rfl) b5
    have r33 : (zsI (zsI (zsR M1 192 7 (some t)) 192 5 (nI n)) 192 6 (-1)).2.2 = u2 M1.2.2 192 7 (some t) := rfl
    have R3 : pRf (zsI (zsI (zsR M1 192 7 (some t)) 192 5 (nI n)) 192 6 (-1)).2.2 := by rw [r33]; exact pRf_u2 b2 (by decide +kernel)
    have D3 := cD hS R3
    have sB := c_stB (S := S) (M := zsI (zsI (zsR M1 192 7 (some t)) 192 5 (nI n)) 192 6 (-1)) (d := 0) hS R3 (by omega)
    rw [if_pos (by omega)] at sB
    have sB' : gX4_stateBehind S 192 0 (zsI (zsI (zsR M1 192 7 (some t)) 192 5 (nI n)) 192 6 (-1)) = some (some 243) := sB
    have hK1 : pSv M1.1 107 E K le := pSv_cg (fun a b k1 k2 => a4 a b (by omega)) hK
    obtain ⟨M6, c1, c2, c3, c4⟩ := c_copy (S := S) (M := zsI (zsI (zsR M1 192 7 (some t)) 192 5 (nI n)) 192 6 (-1)) (p := 243) (p' := 107) (E := E) (K := K) (le := le) (pSs_of hS R3 243 (by decide)) (pSs_of hS R3 107 (by decide)) (by omega) hP12 (pSv_cg (fun a b k1 k2 => by rw [zsI_ne (by omega), zsI_ne (by omega)]; rfl) hK1)
    have r6 : M6.2.2 = u2 M1.2.2 192 7 (some t) := by rw [c2, ← r33]
    have off6 : ∀ a b, ¬ ((a = 192 ∧ (b = 5 ∨ b = 6)) ∨ (243 ≤ a ∧ a ≤ 251)) → M6.1 a b = M1.1 a b := fun a b h => by
      rw [c4 a b (by omega), zsI_ne (by omega), zsI_ne (by omega)]
      rfl
    have bg : gX4_begin S 192 t 107 (nI n) M1 = some M6 := by
      simp (disch := first | omega | simp only [qI2, qL2, qC2, qF2]) only [gX4_begin, ↓D1, ↓bind_of sB', zcs]
      have hrc : ∀ (ρ : Type) (o : Option ρ), zrc S 243 7 15 o = o := fun ρ o => zrc_ok (pSs_of hS R3 243 (by decide)).1
      simp (disch := first | omega | simp only [qI2, qL2, qC2, qF2]) only [↓hrc, ↓bind_of c1]
    have R6 : pRf M6.2.2 := by rw [r6, ← r33]; exact R3
    have h67 : M6.2.2 192 7 = some t := by rw [r6]; exact u2_s
    have hc6 : cOk S M6.2.2 M6.1 t E (moN E) := ⟨⟨hS, R6, ht, by rw [r6, u2_o (by decide)]; exact b4, by rw [r6, u2_o (by decide)]; exact b5⟩, pTv_cg (fun a b k1 k2 => off6 a b (by omega)) b6, pCv_cg (fun a b k => off6 a b (by omega)) b7, wE, moN_ok wE⟩
    have h65 : M6.1 192 5 = nI n := by rw [c4 192 5 (by omega), zsI_ne (by omega), zsI_at]
    have h66 : M6.1 192 6 = -1 := by rw [c4 192 6 (by omega), zsI_at]
    obtain ⟨M10, d1, d2, d3⟩ := c_seek (S := S) (t := t) (E := E) (n := n) hn ht n 12 0 9800 K le (fun _ => 0) none M6 (by omega) (by omega) hc6 h67 h65 c3 wK (by omega) (fun j hj => by omega) ⟨h66, fun q hq => by cases hq⟩
    have d1' : gX4_seek S 12 192 0 134 M6 = some M10 := d1
    rw [hq] at d3
    obtain ⟨w1, w2⟩ := d3
    have w1' : M10.1 192 6 = nI q.1 := w1
    have w3 := (w2 q rfl).2
    have r10 : M10.2.2 = u2 M1.2.2 192 7 (some t) := d2.1.trans r6
    have R10 : pRf M10.2.2 := by rw [d2.1]; exact R6
    have D6 := cD hS R6
    have D10 := cD hS R10
    have L10 := cL hS R10
    have rr : ∀ f, f ≤ 4 → M10.2.2 0 f = M.2.2 0 f := fun f h => by rw [r10, u2_o (by omega), a3, u2_o (by omega)]
    refine ⟨beV q n j, M10, ?_, ⟨fun a b h => ?_, R10, rr 3 (by omega), rr 4 (by omega)⟩, run⟩
    · by_cases j6 : j = 6
      · subst j6
        have j6' : nI 6 = (6 : Int32) := rfl
        have e47 : gX11_best_47 S 0 (nI n) (nI 6) M = some (nI q.1, M10) := by
          simp (disch := first | omega | simp only [qI2, qL2, qC2, qF2]) only [gX11_best_47, ↓D, ↓gT, ↓bind_of a1, ↓D1, ↓gT1, ↓bind_of bg, ↓D6, ↓bind_of d1', if_pos j6', ↓D10, w1']
        have c1 : ¬ 6 < n := by omega
        have c2 : (6 : Int32) ≤ nI 6 := by decide
        simp (disch := first | omega | simp only [qI2, qL2, qC2, qF2]) only [gX11_best, if_neg g1, if_neg g2, if_neg g3, if_pos g4, ↓gT, ↓hgi, hTv, if_neg z0, nI_ltI, if_neg c1, if_pos c2]
        rw [e47]
        rfl
      · have jn : j < n := by
          rcases Nat.lt_or_ge j n with h | h
          · exact h
          · exact absurd ⟨h, j6⟩ hc3
        have j6' : ¬ nI j = 6 := fun h => j6 ((nI_eq (b := 6) (by omega) (by decide)).1 h)
        have w4 := w3 j jn
        have e47 : gX11_best_47 S 0 (nI n) (nI j) M = some (nI (q.2 j), M10) := by
          simp (disch := first | omega | simp only [qI2, qL2, qC2, qF2]) only [gX11_best_47, ↓D, ↓gT, ↓bind_of a1, ↓D1, ↓gT1, ↓bind_of bg, ↓D6, ↓bind_of d1', if_neg j6', ↓D10, ↓L10, w4]
        simp (disch := first | omega | simp only [qI2, qL2, qC2, qF2]) only [gX11_best, if_neg g1, if_neg g2, if_neg g3, if_pos g4, ↓gT, ↓hgi, hTv, if_neg z0, nI_ltI, if_pos jn]
        rw [e47]
        unfold beV
        rw [if_neg j6, if_neg (by omega)]
    · unfold cQ at h
      rw [d2.2 a b (by unfold cSq; omega), off6 a b (by omega)]
      exact a4 a b (by omega)
