/-! pure part 26: law, length, trade, count -/
theorem i23 (x : Int32) : (2 : Int32) < x ↔ (3 : Int32) ≤ x := by
  rw [Int32.lt_iff_toInt_lt, Int32.le_iff_toInt_le]
  have e1 : (2 : Int32).toInt = 2 := by decide
  have e2 : (3 : Int32).toInt = 3 := by decide
  omega
theorem u2r {R : Nat → Nat → Option Nat} {x : Option Nat} (j : Nat) (h : j ≠ 0 ∨ True) : u2 R 134 0 x 0 j = R 0 j := u2_o (by omega)
theorem cFr_of {M M' : zM} {t : Nat} (h : pRf M.2.2) (hR : M'.2.2 = u2 M.2.2 134 0 (some t)) (hI : ∀ a b, ¬ cQ a b → M'.1 a b = M.1 a b) : cFr M M' := by
  refine ⟨hI, ?_, ?_, ?_⟩
  · rw [hR]; exact pRf_u2 h (by decide +kernel)
  · rw [hR]; exact u2_o (by decide)
  · rw [hR]; exact u2_o (by decide)
theorem P_length : zP_length zInv := by
  intro S M hM a1
  refine zq (f := gX11_length S 0 a1) (g := gX12_length S 306 a1) ?_ M hM
  intro A M hw hc
  obtain ⟨t, E, K, le, im, st, no, tp, fl⟩ := A
  have hc2 : cIx S M t E K le im st no tp fl := hc
  have hw2 : aWx E K im st no tp fl := hw
  obtain ⟨⟨hS, hR, ht, h03, h04⟩, hV, hK, him, hst, hno, htp, hfl⟩ := hc2
  obtain ⟨wE, wK, wim, wst, wno, wtp, wfl⟩ := hw2
  have hT6 := wE.1
  have hP12 := wE.2.1
  have hW5 := wE.2.2.2.1
  have T0 := pTs_of hS hR t (Or.inr ht)
  have N0 := pSs_of hS hR 107 (by decide)
  have gT : ∀ (ρ : Type) (M' : zM) (f : Nat → Option ρ), M'.2.2 = M.2.2 → zgR S M' 0 11 14 3 f = f t := fun ρ M' f h => zgR_of ((hS 0 (by decide)).trans rfl) h03 M' f h
  have D := cD hS hR
  have hrc : ∀ (ρ : Type) (o : Option ρ), zrc S t 10 18 o = o := fun ρ o => zrc_ok T0.1
  have hp := e_hasTrade (M := M) (x := a1) T0.1 hV.1.1
  have mp : ∀ M' : zM, mIx S M' E K im st no tp fl → gX12_isTrade S 306 a1 (zsI M' 306 0 0) = some (bI (inR (eT E) a1)) := fun M' hm => e_isTrade (M := zsI M' 306 0 0) hm.1 ((zsI_ne (by omega)).trans hm.2.1.1.1)
  cases h : inR (eT E) a1 with
  | false =>
    rw [h] at hp mp
    refine ⟨-1, M, ?_, cFr.refl' hR, ?_⟩
    · simp (disch := first | omega | simp only [qI2, qL2, qC2, qF2]) only [gX11_length, ↓D, ↓gT, ↓hrc, ↓bind_of hp, bIf, if_true]
    · skip
      intro M' hm
      have hm2 : mIx S M' E K im st no tp fl := hm
      obtain ⟨mS', mE, mK, mim, mst, mno, mtp, mfl, mmd⟩ := hm2
      refine ⟨_, ?_, th0 M' 0⟩
      simp (disch := first | omega | simp only [qI2, qL2, qC2, qF2]) only [gX12_length, ↓mH mS', ↓bind_of (mp M' hm), bIf, if_true]
  | true =>
    rw [h] at hp mp
    obtain ⟨j, hj, rfl⟩ := inR_ex (by omega) h
    obtain ⟨M1, a1, a2, a3, a4⟩ := c_goesOf hS hR ht h03 hV wE
    obtain ⟨⟨-, b2, -, b4, -⟩, b6, b7, -, -⟩ := id a2
    obtain ⟨M2, d1, d2, d3⟩ := e_lengthBy (M := M1) (p := 107) (le := le) (K := K) (pCs_of hS b2 b4) b7 (pTs_of hS b2 t (Or.inr ht)) b6 (pSs_of hS b2 107 (by decide)) (pSv_cg (fun a b k1 k2 => a4 a b (by omega)) hK) wE hj
    have D1 := cD hS b2
    refine ⟨lenS E K (moN E) j, M2, ?_, cFr_of hR (d3.trans a3) (fun a b k => by rw [d2]; exact a4 a b (by unfold cQ at k; omega)), ?_⟩
    · simp (disch := first | omega | simp only [qI2, qL2, qC2, qF2]) only [gX11_length, ↓D, ↓gT, ↓hrc, ↓bind_of hp, if_neg bIt, ↓bind_of a1, ↓D1, ↓zb2_of d1]
    · skip
      intro M' hm
      have hm2 : mIx S M' E K im st no tp fl := hm
      obtain ⟨mS', mE, mK, mim, mst, mno, mtp, mfl, mmd⟩ := hm2
      have hf := th0 M' 0
      obtain ⟨M3, e1, e2⟩ := e_lengthOf (M := zsI M' 306 0 0) (s := 0) (mo := moN E) mS' (pME_cg (fun a b k1 k2 => zsI_ne (by omega)) mE) (pMo_cg (fun b k1 k2 => zsI_ne (by omega)) (mo_now wE mmd)) (pMk_cg hP12 (fun a b k => zsI_ne (by unfold mS at k; omega)) mK) wE (fun w hw => Nat.lt_of_le_of_lt (wK.2.2.1 w hw) (by decide)) (by decide) hj
      refine ⟨M3, ?_, hf.trans (e2.mono (fun a b k => Or.inl ⟨k.1, Or.inr (Or.inl k.2)⟩))⟩
      have e1' : gX12_lengthOf S 306 0 (nI j) (zsI M' 306 0 0) = some (lenS E K (moN E) j, M3) := e1
      simp (disch := first | omega | simp only [qI2, qL2, qC2, qF2]) only [gX12_length, ↓mH mS', ↓bind_of (mp M' hm), if_neg bIt, ↓zb2_of e1']
theorem P_law : zP_law zInv := by
  intro S M hM a1 a2
  refine zq (f := gX11_law S 0 a1 a2) (g := gX12_law S 306 a1 a2) ?_ M hM
  intro A M hw hc
  obtain ⟨t, E, K, le, im, st, no, tp, fl⟩ := A
  have hc2 : cIx S M t E K le im st no tp fl := hc
  have hw2 : aWx E K im st no tp fl := hw
  obtain ⟨⟨hS, hR, ht, h03, h04⟩, hV, hK, him, hst, hno, htp, hfl⟩ := hc2
  obtain ⟨wE, wK, wim, wst, wno, wtp, wfl⟩ := hw2
  have hT6 := wE.1
  have hP12 := wE.2.1
  have hW5 := wE.2.2.2.1
  have T0 := pTs_of hS hR t (Or.inr ht)
  have N0 := pSs_of hS hR 107 (by decide)
  have gT : ∀ (ρ : Type) (M' : zM) (f : Nat → Option ρ), M'.2.2 = M.2.2 → zgR S M' 0 11 14 3 f = f t := fun ρ M' f h => zgR_of ((hS 0 (by decide)).trans rfl) h03 M' f h
  have D := cD hS hR
  have hrc : ∀ (ρ : Type) (o : Option ρ), zrc S t 10 18 o = o := fun ρ o => zrc_ok T0.1
  by_cases g0 : a1 < 0
  · refine ⟨-9223372036854775808, M, ?_, cFr.refl' hR, ?_⟩
    · simp only [gX11_law, if_pos g0]
    · skip
      intro M' hm
      have hm2 : mIx S M' E K im st no tp fl := hm
      obtain ⟨mS', mE, mK, mim, mst, mno, mtp, mfl, mmd⟩ := hm2
      refine ⟨_, ?_, th0 M' 0⟩
      simp (disch := first | omega | simp only [qI2, qL2, qC2, qF2]) only [gX12_law, ↓mH mS', if_pos g0]
  by_cases g1 : (3 : Int32) ≤ a1
  · refine ⟨-9223372036854775808, M, ?_, cFr.refl' hR, ?_⟩
    · simp only [gX11_law, if_neg g0, if_pos g1]
    · skip
      intro M' hm
      have hm2 : mIx S M' E K im st no tp fl := hm
      obtain ⟨mS', mE, mK, mim, mst, mno, mtp, mfl, mmd⟩ := hm2
      refine ⟨_, ?_, th0 M' 0⟩
      have g2 := (i23 a1).mpr g1
      simp (disch := first | omega | simp only [qI2, qL2, qC2, qF2]) only [gX12_law, ↓mH mS', if_neg g0, if_pos g2]
  have g2 : ¬ (2 : Int32) < a1 := fun k => g1 ((i23 a1).mp k)
  obtain ⟨r, hr, rfl⟩ : ∃ r, r < 3 ∧ a1 = nI r := by
    rcases pk_ix a1 (n := 3) (by decide) with k | k | k
    · exact absurd k g0
    · exact absurd k g1
    · exact k
  have hp := e_hasTrade (M := M) (x := a2) T0.1 hV.1.1
  have mp : ∀ M' : zM, mIx S M' E K im st no tp fl → gX12_isTrade S 306 a2 (zsI M' 306 0 0) = some (bI (inR (eT E) a2)) := fun M' hm => e_isTrade (M := zsI M' 306 0 0) hm.1 ((zsI_ne (by omega)).trans hm.2.1.1.1)
  have ml : ∀ M' : zM, mIx S M' E K im st no tp fl → gX12_hasLaw S 306 (nI r) (zsI M' 306 0 0) = some (if eRu E r = [] then 0 else 1) := fun M' hm => e_hasLaw (M := zsI M' 306 0 0) hm.1 hr ((pME_cg (fun a b k1 k2 => zsI_ne (by omega)) hm.2.1).2.2.2.2.2 r hr)
  cases h : inR (eT E) a2 with
  | false =>
    rw [h] at hp mp
    refine ⟨-9223372036854775808, M, ?_, cFr.refl' hR, ?_⟩
    · simp (disch := first | omega | simp only [qI2, qL2, qC2, qF2]) only [gX11_law, if_neg g0, if_neg g1, ↓D, ↓gT, ↓hrc, ↓bind_of hp, bIf, if_true]
    · skip
      intro M' hm
      have hm2 : mIx S M' E K im st no tp fl := hm
      obtain ⟨mS', mE, mK, mim, mst, mno, mtp, mfl, mmd⟩ := hm2
      refine ⟨_, ?_, th0 M' 0⟩
      simp (disch := first | omega | simp only [qI2, qL2, qC2, qF2]) only [gX12_law, if_neg g0, if_neg g2, ↓mH mS', ↓bind_of (ml M' hm)]
      split
      · rfl
      · simp (disch := first | omega | simp only [qI2, qL2, qC2, qF2]) only [↓mH mS', ↓bind_of (mp M' hm), bIf, if_true]
        exact if_neg (by decide)
  | true =>
    rw [h] at hp mp
    obtain ⟨j, hj, rfl⟩ := inR_ex (by omega) h
    obtain ⟨M1, a1, a2, a3, a4⟩ := c_goesOf hS hR ht h03 hV wE
    obtain ⟨⟨-, b2, -, b4, -⟩, b6, b7, -, -⟩ := id a2
    obtain ⟨M2, d1, d2, d3⟩ := e_worth (M := M1) (p := 107) (le := le) (K := K) (r := r) (hr := eHr E) (pCs_of hS b2 b4) b7.1 (pTs_of hS b2 t (Or.inr ht)) b6 (pSs_of hS b2 107 (by decide)) (pSv_cg (fun a b k1 k2 => a4 a b (by omega)) hK) wE hr hj
    have D1 := cD hS b2
    refine ⟨wS E (nmS E K (eHr E) j) r, M2, ?_, cFr_of hR (d3.trans a3) (fun a b k => by rw [d2]; exact a4 a b (by unfold cQ at k; omega)), ?_⟩
    · simp (disch := first | omega | simp only [qI2, qL2, qC2, qF2]) only [gX11_law, if_neg g0, if_neg g1, ↓D, ↓gT, ↓hrc, ↓bind_of hp, if_neg bIt, ↓bind_of a1, ↓D1, ↓zb2_of d1]
    · skip
      intro M' hm
      have hm2 : mIx S M' E K im st no tp fl := hm
      obtain ⟨mS', mE, mK, mim, mst, mno, mtp, mfl, mmd⟩ := hm2
      have hf := th0 M' 0
      have mE1 : pME (zsI M' 306 0 0).1 E := pME_cg (fun a b k1 k2 => zsI_ne (by omega)) mE
      by_cases h0 : eRu E r = []
      · refine ⟨_, ?_, hf⟩
        have hw : wS E (nmS E K (eHr E) j) r = lMin := if_pos h0
        have ml' := ml M' hm
        rw [if_pos h0] at ml'
        rw [hw]
        simp (disch := first | omega | simp only [qI2, qL2, qC2, qF2]) only [gX12_law, if_neg g0, if_neg g2, ↓mH mS', ↓bind_of ml', if_true]
        rfl
      · have hw : wS E (nmS E K (eHr E) j) r = wfin (wrun (nmS E K (eHr E) j) (eRu E r) []) := if_neg h0
        have ml' := ml M' hm
        rw [if_neg h0] at ml'
        have n1 : ¬ (1 : Int32) = 0 := by decide
        obtain ⟨M3, e1, e2, e3, e4⟩ := e_calls (M := zsI M' 306 0 0) (s := 0) (mo := moN E) mS' mE1 (pMo_cg (fun b k1 k2 => zsI_ne (by omega)) (mo_now wE mmd)) (pMk_cg hP12 (fun a b k => zsI_ne (by unfold mS at k; omega)) mK) wE (fun w hw => Nat.lt_of_le_of_lt (wK.2.2.1 w hw) (by decide)) (by decide) hj
        have e1' : gX12_calls S 306 0 (nI j) (zsI M' 306 0 0) = some M3 := e1
        have mS3 : pMs S M3.2.2 := e3 ▸ mS'
        obtain ⟨M4, f1, f2, f3, f4⟩ := e_goes mS3 hr (e2 ▸ mE1.2.2.2.2.2 r hr) e4 (wE.2.2.2.2.2.2.2.2.2.2.2.2 r hr h0)
        have mS4 : pMs S M4.2.2 := f2 ▸ mS3
        have ff : fr mQ M' M4 := hf.trans ⟨f2.trans e3, fun a b k => by rw [f3 a b (by unfold mQ at k; omega), e2]⟩
        refine ⟨M4, ?_, ff⟩
        have z0 : ∀ (f : Int64 → Option (Int64 × zM)), zaL S M4 323 0 f = f (M4.2.1 323 0) := fun f => zaL_ok (i := 0) (pMg mS4 31 323 101 64 (by decide)).2 (by decide) (by decide)
        simp (disch := first | omega | simp only [qI2, qL2, qC2, qF2]) only [gX12_law, if_neg g0, if_neg g2, ↓mH mS', ↓bind_of ml', if_neg n1, ↓bind_of (mp M' hm), if_neg bIt, ↓bind_of e1', ↓zb2_of f1, ↓mH mS4, ↓z0]
        rw [hw]
        have f4' : ∀ x, wrun (nmS E K (eHr E) j) (eRu E r) [] = some x → x = [wfin (some x)] ∧ M4.2.1 323 0 = wfin (some x) := f4
        show (if (match wrun (nmS E K (eHr E) j) (eRu E r) [] with | some _ => (1 : Int32) | none => 0) = 0 then _ else _) = _
        cases hx : wrun (nmS E K (eHr E) j) (eRu E r) [] with
        | none =>
          rw [if_pos rfl]
          rfl
        | some x =>
          obtain ⟨x1, x2⟩ := f4' x hx
          rw [if_neg n1, x2]
theorem P_trade : zP_trade zInv := by
  intro S M hM a1 a2
  obtain ⟨A, hw, hc, hm⟩ := hM
  obtain ⟨t, E, K, le, im, st, no, tp, fl⟩ := A
  have hc2 : cIx S M t E K le im st no tp fl := hc
  have hw2 : aWx E K im st no tp fl := hw
  have hm2 : mIx S M E K im st no tp fl := hm
  obtain ⟨⟨hS, hR, ht, h03, h04⟩, hV, hK, him, hst, hno, htp, hfl⟩ := hc2
  obtain ⟨wE, wK, wim, wst, wno, wtp, wfl⟩ := hw2
  obtain ⟨mS', mE, mK, mim, mst, mno, mtp, mfl, mmd⟩ := hm2
  have hT6 := wE.1
  have hP12 := wE.2.1
  have T0 := pTs_of hS hR t (Or.inr ht)
  have N0 := pSs_of hS hR 107 (by decide)
  have gT : ∀ (ρ : Type) (M' : zM) (f : Nat → Option ρ), M'.2.2 = M.2.2 → zgR S M' 0 11 14 3 f = f t := fun ρ M' f h => zgR_of ((hS 0 (by decide)).trans rfl) h03 M' f h
  have D := cD hS hR
  have N := cN hS hR
  have F := tG T0
  have hrc : ∀ (ρ : Type) (o : Option ρ), zrc S t 10 18 o = o := fun ρ o => zrc_ok T0.1
  have hp := e_hasTrade (M := M) (x := a1) T0.1 hV.1.1
  have h48 : ∀ M' : zM, fr mQ M M' → zInv S (zsL M' 348 0 0) → True := fun _ _ _ => trivial
  have inv : ∀ M' : zM, fr mQ M M' → zInv S M' := fun M' hf =>
    ⟨(t, E, K, le, im, st, no, tp, fl), hw, cI_cg (fun a b k _ => hf.2 a b (by unfold mQ; omega)) (hf.1 ▸ hR) (by rw [hf.1]) (by rw [hf.1]) hc, mFr_I hw hf hm⟩
  have mp : ∀ M' : zM, M'.2.2 = M.2.2 → M'.1 = M.1 → gX12_isTrade S 306 a1 M' = some (bI (inR (eT E) a1)) := fun M' h1 h2 => e_isTrade (M := M') (h1 ▸ mS') (by rw [h2]; exact mE.1.1)
  have thr : ∀ (M' : zM) (x : Int32), M'.2.2 = M.2.2 → gX12_thrown S 306 (zsI M' 306 0 x) = some x := fun M' x h => by
    unfold gX12_thrown
    rw [zgI_ok mS'.1, zsI_at]
  have zt0 : ∀ v, gX10_hasTrade S t a1 M = some v → zT0 S M 0 a1 v := fun v hv => ⟨(hS 0 (by decide)).trans rfl, t, h03, T0.1, hv⟩
  cases h : inR (eT E) a1 with
  | false =>
    rw [h] at hp mp
    right; left
    have n1 : ¬ (1 : Int32) = 0 := by decide
    refine ⟨0, zsI M 306 0 1, zt0 _ hp, ?_, thr M 1 rfl, inv _ (th0 M 1)⟩
    simp (disch := first | omega | simp only [qI2, qL2, qC2, qF2]) only [gX12_trade, gX12_trade_27, ↓mH mS', ↓bind_of (mp M rfl rfl), bIf, if_true, zsI_at, if_neg n1]
  | true =>
    rw [h] at hp mp
    obtain ⟨j, hj, rfl⟩ := inR_ex (by omega) h
    obtain ⟨-, v1, v2⟩ := hV.2.1 j hj
    have v3 : M.1 111 j = kKn K j := (hK.2.2.1 j (by omega)).1
    have v4 : M.1 113 j = kOp K j := (hK.2.2.1 j (by omega)).2
    have v5 := c_plc (x := nI j) N0 hK hP12
    by_cases b0 : a2 < 0
    · right; right
      have n2 : ¬ (2 : Int32) = 0 := by decide
      refine ⟨0, 1, zsI M 306 0 2, zt0 _ hp, by decide, Or.inl (by rw [Int32.lt_iff_toInt_lt] at b0; exact b0), ?_, thr M 2 rfl, inv _ (th0 M 2)⟩
      simp (disch := first | omega | simp only [qI2, qL2, qC2, qF2]) only [gX12_trade, gX12_trade_27, ↓mH mS', ↓bind_of (mp M rfl rfl), if_neg bIt, if_pos b0, zsI_at, if_neg n2]
    by_cases b1 : a2 ≤ (4 : Int32)
    · left
      obtain ⟨k, hk, rfl⟩ := nI_of2 (M := 4) (n := 4) (by decide) b0 b1
      have key : ∀ v : Int32, gX11_trade S 0 (nI j) (nI k) M = some (v, M) → (∀ M' : zM, M'.2.2 = M.2.2 → M'.1 = M.1 → gX12_trade S 306 (nI j) (nI k) M' = some (v, zsI M' 306 0 0)) → ∃ (v : Int32) (M1 M2 : zM), gX11_trade S 0 (nI j) (nI k) M = some (v, M1) ∧ gX12_trade S 306 (nI j) (nI k) (zsL M1 348 0 v.toInt64) = some (v, M2) ∧ gX12_thrown S 306 M2 = some 0 ∧ M2.2.1 348 0 = v.toInt64 ∧ zInv S M2 := fun v h1 h2 =>
        ⟨v, M, zsI (zsL M 348 0 v.toInt64) 306 0 0, h1, h2 _ rfl rfl, thr (zsL M 348 0 v.toInt64) 0 rfl, zsL_at _ _ _ _, inv _ ((fr.refl.sL (k := 348) (j := 0) (x := v.toInt64)).trans (th0 _ 0))⟩
      have u := mE.2.1 j hj
      have u3 : M.1 332 j = kKn K j := by have := (mK.2.1 j (by omega)).1; rw [show 6 * 0 + j = j by omega] at this; exact this
      have u4 : M.1 333 j = kOp K j := by have := (mK.2.1 j (by omega)).2; rw [show 6 * 0 + j = j by omega] at this; exact this
      have start : ∀ M' : zM, M'.2.2 = M.2.2 → M'.1 = M.1 → gX12_trade S 306 (nI j) (nI k) M' = gX12_trade_27 S 306 (nI j) (nI k) 0 306 M' := fun M' h1 h2 => by
        have hms : pMs S M'.2.2 := h1 ▸ mS'
        simp (disch := first | omega | simp only [qI2, qL2, qC2, qF2]) only [gX12_trade, ↓mH hms, ↓bind_of (mp M' h1 h2), if_neg bIt, if_neg b0, if_pos b1]
      have cst : gX11_trade S 0 (nI j) (nI k) M = (if nI k = (0 : Int32) then some (nI (eHr E j), M) else if nI k = (1 : Int32) then some (nI (eMn E j), M) else if nI k = (2 : Int32) then some (kKn K j, M) else if nI k = (3 : Int32) then some (kOp K j, M) else if nI k = (4 : Int32) then some (nI (plc E K (nI j)), M) else none) := by
        simp (disch := first | omega | simp only [qI2, qL2, qC2, qF2]) only [gX11_trade, ↓gT, ↓hrc, ↓bind_of hp, if_neg bIt, ↓F, ↓D, ↓N, v1, v2, v3, v4, ↓bind_of v5]
      have mst : ∀ M' : zM, M'.2.2 = M.2.2 → M'.1 = M.1 → gX12_trade S 306 (nI j) (nI k) M' = (if nI k = (0 : Int32) then some (nI (eHr E j), zsI M' 306 0 0) else if nI k = (1 : Int32) then some (nI (eMn E j), zsI M' 306 0 0) else if nI k = (2 : Int32) then some (kKn K j, zsI M' 306 0 0) else if nI k = (3 : Int32) then some (kOp K j, zsI M' 306 0 0) else some (nI (plc E K (nI j)), zsI M' 306 0 0)) := fun M' h1 h2 => by
        have hms : pMs S M'.2.2 := h1 ▸ mS'
        have v6 := m_plc (M := zsI M' 306 0 0) (K := K) (E := E) (x := nI j) hms (pME_cg (fun a b k1 k2 => by rw [zsI_ne (by omega), h2]) mE) (pMk_cg hP12 (fun a b k => by rw [zsI_ne (by unfold mS at k; omega), h2]) mK) hP12
        rw [start M' h1 h2]
        simp (disch := first | omega | simp only [qI2, qL2, qC2, qF2]) only [gX12_trade_27, ↓mH hms, ↓mG hms, zsI_ne, zsI_at, h2, u.2.1, u.2.2, u3, u4, if_true, ↓bind_of v6]
      have hk4 := (show k = 0 ∨ k = 1 ∨ k = 2 ∨ k = 3 ∨ k = 4 by omega)
      rcases hk4 with rfl | rfl | rfl | rfl | rfl
      · exact key _ cst mst
      · exact key _ cst mst
      · exact key _ cst mst
      · exact key _ cst mst
      · exact key _ cst mst
    · right; right
      have n2 : ¬ (2 : Int32) = 0 := by decide
      refine ⟨0, 1, zsI M 306 0 2, zt0 _ hp, by decide, Or.inr (by rw [Int32.le_iff_toInt_le, show ((4 : Int32).toInt) = 4 from by decide] at b1; omega), ?_, thr M 2 rfl, inv _ (th0 M 2)⟩
      simp (disch := first | omega | simp only [qI2, qL2, qC2, qF2]) only [gX12_trade, gX12_trade_27, ↓mH mS', ↓bind_of (mp M rfl rfl), if_neg bIt, if_neg b0, if_neg b1, zsI_at, if_neg n2]
