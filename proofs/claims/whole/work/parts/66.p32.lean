/-! pure part 32: tried, chance -/
def moT (E : zEn) (k i : Nat) : zMo := if k = 0 then (eHr E, false, true, 0, none) else if k = 1 then (eHr E, false, true, 100, none) else if k = 2 then (eHr E, false, true, eS E, some i) else if k = 3 then (eHr E, false, false, eS E, none) else (fun _ => 0, false, true, eS E, none)
theorem moT_dr {E : zEn} {k i : Nat} : (moT E k i).2.1 = false := by
  unfold moT
  split
  · rfl
  split
  · rfl
  split
  · rfl
  split <;> rfl
theorem moT_ok {E : zEn} {k i : Nat} (wE : wfE E) (hi : k = 2 → i < eT E) : moOk E (moT E k i) := by
  have h := moN_ok wE
  have hT := wE.1
  unfold moT
  split
  · exact ⟨fun _ h => (by cases h), Nat.zero_le _, h.2.2⟩
  split
  · exact ⟨fun _ h => (by cases h), Nat.le_refl _, h.2.2⟩
  split
  · rename_i h2
    have := hi h2
    exact ⟨fun j h => (by cases h; omega), h.2.1, h.2.2⟩
  split
  · exact ⟨fun _ h => (by cases h), h.2.1, h.2.2⟩
  · exact ⟨fun _ h => (by cases h), h.2.1, fun _ _ => Nat.zero_le _⟩
theorem c_differs {S : List (Nat × Nat)} {M : zM} {t k i : Nat} {E : zEn} (hc : cOk S M.2.2 M.1 t E (moN E)) (hk : k ≤ 4) (hi : k = 2 → i < eT E) :
    ∃ M', gX0_differs S 134 (nI k) (nI i) M = some M' ∧ cOk S M'.2.2 M'.1 t E (moT E k i) ∧ M'.2 = M.2 ∧ ∀ a b, ¬ (a = 134 ∨ a = 168) → M'.1 a b = M.1 a b := by
  obtain ⟨h1, h2, h3, h4, h5⟩ := hc
  have D := cD h1.1 h1.2.1
  have hT6 := h4.1
  have ok := moT_ok (k := k) (i := i) h4 hi
  have mk : ∀ (f : Nat) (x : Int32) (mo : zMo), 2 ≤ f → moOk E mo → pCv (zsI M 134 f x).1 134 167 E mo → cOk S (zsI M 134 f x).2.2 (zsI M 134 f x).1 t E mo ∧ (zsI M 134 f x).2 = M.2 ∧ ∀ a b, ¬ (a = 134 ∨ a = 168) → (zsI M 134 f x).1 a b = M.1 a b := fun f x mo hf ho hp =>
    ⟨⟨h1, pTv_cg (fun a b k1 k2 => zsI_ne (by have := h1.2.2.1; omega)) h2, hp, h4, ho⟩, rfl, fun a b k => zsI_ne (by omega)⟩
  rcases (show k = 0 ∨ k = 1 ∨ k = 2 ∨ k = 3 ∨ k = 4 by omega) with rfl | rfl | rfl | rfl | rfl
  · refine ⟨zsI M 134 4 0, ?_, mk 4 0 _ (by decide) ok ⟨fun j hj => (zsI_ne (by omega)).trans (h3.1 j hj), (zsI_ne (by omega)).trans h3.2.1, (zsI_ne (by omega)).trans h3.2.2.1, zsI_at _ _ _ _, (zsI_ne (by omega)).trans h3.2.2.2.2⟩⟩
    unfold gX0_differs
    rw [if_pos (by decide)]
    simp (disch := first | omega | simp only [qI2, qL2, qC2, qF2]) only [↓D]
  · refine ⟨zsI M 134 4 100, ?_, mk 4 100 _ (by decide) ok ⟨fun j hj => (zsI_ne (by omega)).trans (h3.1 j hj), (zsI_ne (by omega)).trans h3.2.1, (zsI_ne (by omega)).trans h3.2.2.1, zsI_at _ _ _ _, (zsI_ne (by omega)).trans h3.2.2.2.2⟩⟩
    unfold gX0_differs
    rw [if_neg (by decide), if_pos (by decide)]
    simp (disch := first | omega | simp only [qI2, qL2, qC2, qF2]) only [↓D]
  · refine ⟨zsI M 134 5 (nI i), ?_, mk 5 (nI i) _ (by decide) ok ⟨fun j hj => (zsI_ne (by omega)).trans (h3.1 j hj), (zsI_ne (by omega)).trans h3.2.1, (zsI_ne (by omega)).trans h3.2.2.1, (zsI_ne (by omega)).trans h3.2.2.2.1, zsI_at _ _ _ _⟩⟩
    unfold gX0_differs
    rw [if_neg (by decide), if_neg (by decide), if_pos (by decide)]
    simp (disch := first | omega | simp only [qI2, qL2, qC2, qF2]) only [↓D]
  · refine ⟨zsI M 134 3 0, ?_, mk 3 0 _ (by decide) ok ⟨fun j hj => (zsI_ne (by omega)).trans (h3.1 j hj), (zsI_ne (by omega)).trans h3.2.1, zsI_at _ _ _ _, (zsI_ne (by omega)).trans h3.2.2.2.1, (zsI_ne (by omega)).trans h3.2.2.2.2⟩⟩
    unfold gX0_differs
    rw [if_neg (by decide), if_neg (by decide), if_neg (by decide), if_pos (by decide)]
    simp (disch := first | omega | simp only [qI2, qL2, qC2, qF2]) only [↓D]
  · have ht := h1.2.2.1
    refine ⟨zfl M 168 0 0 6, ?_, ⟨h1, pTv_cg (fun a b k1 k2 => zfl_ne (by omega)) h2, ⟨fun j hj => zfl_at (by omega), (zfl_ne (by omega)).trans h3.2.1, (zfl_ne (by omega)).trans h3.2.2.1, (zfl_ne (by omega)).trans h3.2.2.2.1, (zfl_ne (by omega)).trans h3.2.2.2.2⟩, h4, ok⟩, rfl, fun a b k => zfl_ne (by omega)⟩
    unfold gX0_differs
    rw [if_neg (by decide), if_neg (by decide), if_neg (by decide), if_neg (by decide)]
    simp (disch := first | omega | simp only [qI2, qL2, qC2, qF2]) only [↓D]
theorem moT_p {I : Nat → Nat → Int32} {E : zEn} {k i : Nat} {x : Int32} (hT : eT E ≤ 6) (hk : k ≤ 4) (h1 : I 306 47 = (if k = 0 then 5 else nI k)) (h2 : I 306 48 = x) (hx : k = 2 → x = nI i ∧ i < eT E) (h3 : I 306 49 = -1) : pMo I E (moT E k i) := by
  have hn : ∀ t, t < eT E → ¬ nI t = -1 := fun t ht => nI_m1ne (by omega)
  rcases (show k = 0 ∨ k = 1 ∨ k = 2 ∨ k = 3 ∨ k = 4 by omega) with rfl | rfl | rfl | rfl | rfl
  · have h1' : I 306 47 = 5 := h1
    refine ⟨fun t ht => ?_, fun t ht => ?_, ?_, ?_⟩
    · rw [h1', h3, if_neg (by decide), if_neg (hn t ht)]; rfl
    · rw [h1']; exact ⟨fun h => absurd h.1 (by decide), fun h => by cases h⟩
    · rw [h1']; exact ⟨fun h => absurd h (by decide), fun h => by cases h⟩
    · rw [h1', if_pos rfl]; rfl
  · have h1' : I 306 47 = 1 := h1
    refine ⟨fun t ht => ?_, fun t ht => ?_, ?_, ?_⟩
    · rw [h1', h3, if_neg (by decide), if_neg (hn t ht)]; rfl
    · rw [h1']; exact ⟨fun h => absurd h.1 (by decide), fun h => by cases h⟩
    · rw [h1']; exact ⟨fun h => absurd h (by decide), fun h => by cases h⟩
    · rw [h1', if_neg (by decide), if_pos rfl]; rfl
  · have h1' : I 306 47 = 2 := h1
    obtain ⟨hx1, hx2⟩ := hx rfl
    refine ⟨fun t ht => ?_, fun t ht => ?_, ?_, ?_⟩
    · rw [h1', h3, if_neg (by decide), if_neg (hn t ht)]; rfl
    · rw [h1', h2, hx1, nI_eq (by omega) (by omega)]
      exact ⟨fun h => by rw [h.2]; rfl, fun h => ⟨rfl, by cases h; rfl⟩⟩
    · rw [h1']; exact ⟨fun h => absurd h (by decide), fun h => by cases h⟩
    · rw [h1', if_neg (by decide), if_neg (by decide)]; rfl
  · have h1' : I 306 47 = 3 := h1
    refine ⟨fun t ht => ?_, fun t ht => ?_, ?_, ?_⟩
    · rw [h1', h3, if_neg (by decide), if_neg (hn t ht)]; rfl
    · rw [h1']; exact ⟨fun h => absurd h.1 (by decide), fun h => by cases h⟩
    · rw [h1']; exact ⟨fun _ => rfl, fun _ => rfl⟩
    · rw [h1', if_neg (by decide), if_neg (by decide)]; rfl
  · have h1' : I 306 47 = 4 := h1
    refine ⟨fun t ht => ?_, fun t ht => ?_, ?_, ?_⟩
    · rw [h1', if_pos rfl]; rfl
    · rw [h1']; exact ⟨fun h => absurd h.1 (by decide), fun h => by cases h⟩
    · rw [h1']; exact ⟨fun h => absurd h (by decide), fun h => by cases h⟩
    · rw [h1', if_neg (by decide), if_neg (by decide)]; rfl
/-- may it be tried so: what, of which trade -/
def okT (E : zEn) (a1 a2 : Int32) : Bool := if a1 = 2 then inR (eT E) a2 else if a1 < 0 then false else if (4 : Int32) < a1 then false else if a2 = 0 then true else false
theorem okT_ex {E : zEn} {a1 a2 : Int32} (hT : eT E ≤ 6) (h : okT E a1 a2 = true) : ∃ k i, k ≤ 4 ∧ a1 = nI k ∧ a2 = nI i ∧ (k = 2 → i < eT E) := by
  unfold okT at h
  by_cases c : a1 = 2
  · rw [if_pos c] at h
    obtain ⟨j, hj, e⟩ := inR_ex (by omega) h
    exact ⟨2, j, by decide, c, e, fun _ => hj⟩
  rw [if_neg c] at h
  by_cases c0 : a1 < 0
  · rw [if_pos c0] at h; cases h
  rw [if_neg c0] at h
  by_cases c1 : (4 : Int32) < a1
  · rw [if_pos c1] at h; cases h
  rw [if_neg c1] at h
  by_cases c2 : a2 = 0
  · obtain ⟨k, hk, e⟩ := nI_of2 (M := 4) (n := 4) (by decide) c0 (Int32.not_lt.mp c1)
    exact ⟨k, 0, hk, e, c2, fun h2 => absurd (by rw [e, h2]; rfl) c⟩
  · rw [if_neg c2] at h; cases h
theorem P_tried : zP_tried zInv := by
  intro S M hM a1 a2 a3
  refine zq (f := gX11_tried S 0 a1 a2 a3) (g := gX12_tried S 306 a1 a2 a3) ?_ M hM
  intro A M hw hc
  obtain ⟨t, E, K, le, im, st, no, tp, fl⟩ := A
  have hc2 : cIx S M t E K le im st no tp fl := hc
  have hw2 : aWx E K im st no tp fl := hw
  obtain ⟨⟨hS, hR, ht, h03, h04⟩, hV, hK, him, hst, hno, htp, hfl⟩ := hc2
  obtain ⟨wE, wK, wim, wst, wno, wtp, wfl⟩ := hw2
  have hT6 := wE.1
  have hP12 := wE.2.1
  have hW5 := wE.2.2.2.1
  have T0 := pTs_of hS hR t (Or.inr ht)
  have N0 := pSs_of hS hR 107 (by decide)
  have gT : ∀ (ρ : Type) (M' : zM) (f : Nat → Option ρ), M'.2.2 = M.2.2 → zgR S M' 0 11 14 3 f = f t := fun ρ M' f h => zgR_of ((hS 0 (by decide)).trans rfl) h03 M' f h
  have D := cD hS hR
  have hrc : ∀ (ρ : Type) (o : Option ρ), zrc S t 10 18 o = o := fun ρ o => zrc_ok T0.1
  have hp := e_hasTrade (M := M) (x := a2) T0.1 hV.1.1
  have mp : ∀ M' : zM, mIx S M' E K im st no tp fl → gX12_isTrade S 306 a2 (zsI M' 306 0 0) = some (bI (inR (eT E) a2)) := fun M' hm => e_isTrade (M := zsI M' 306 0 0) hm.1 ((zsI_ne (by omega)).trans hm.2.1.1.1)
  have cs : gX11_tried S 0 a1 a2 a3 M = gX11_tried_34 S 0 a1 a2 a3 (bI (okT E a1 a2)) M := by
    unfold okT
    by_cases c : a1 = 2
    · simp (disch := first | omega | simp only [qI2, qL2, qC2, qF2]) only [gX11_tried, ↓if_pos c, ↓gT, ↓hrc, ↓bind_of hp]
    by_cases c0 : a1 < 0
    · simp only [gX11_tried, ↓if_neg c, ↓if_pos c0]
      rfl
    by_cases c1 : (4 : Int32) < a1
    · simp only [gX11_tried, ↓if_neg c, ↓if_neg c0, ↓if_pos c1]
      rfl
    by_cases c2 : a2 = 0
    · simp only [gX11_tried, ↓if_neg c, ↓if_neg c0, ↓if_neg c1, ↓if_pos c2]
      rfl
    · simp only [gX11_tried, ↓if_neg c, ↓if_neg c0, ↓if_neg c1, ↓if_neg c2]
      rfl
  have ms : ∀ M' : zM, mIx S M' E K im st no tp fl → gX12_tried S 306 a1 a2 a3 M' = gX12_tried_36 S 306 a1 a2 a3 (bI (okT E a1 a2)) (zsI M' 306 0 0) := fun M' hm => by
    have mS' := hm.1
    unfold okT
    by_cases c : a1 = 2
    · simp (disch := first | omega | simp only [qI2, qL2, qC2, qF2]) only [gX12_tried, ↓mH mS', ↓if_pos c, ↓bind_of (mp M' hm)]
    by_cases c0 : a1 < 0
    · simp (disch := first | omega | simp only [qI2, qL2, qC2, qF2]) only [gX12_tried, ↓mH mS', ↓if_neg c, ↓if_pos c0]
      rfl
    by_cases c1 : (4 : Int32) < a1
    · simp (disch := first | omega | simp only [qI2, qL2, qC2, qF2]) only [gX12_tried, ↓mH mS', ↓if_neg c, ↓if_neg c0, ↓if_pos c1]
      rfl
    by_cases c2 : a2 = 0
    · simp (disch := first | omega | simp only [qI2, qL2, qC2, qF2]) only [gX12_tried, ↓mH mS', ↓if_neg c, ↓if_neg c0, ↓if_neg c1, ↓if_pos c2]
      rfl
    · simp (disch := first | omega | simp only [qI2, qL2, qC2, qF2]) only [gX12_tried, ↓mH mS', ↓if_neg c, ↓if_neg c0, ↓if_neg c1, ↓if_neg c2]
      rfl
  cases h1 : okT E a1 a2 with
  | false =>
    refine ⟨-1, M, ?_, cFr.refl' hR, ?_⟩
    · rw [cs, h1]
      simp only [gX11_tried_34, bIf, if_true]
    · skip
      intro M' hm
      have hm2 : mIx S M' E K im st no tp fl := hm
      obtain ⟨mS', mE, mK, mim, mst, mno, mtp, mfl, mmd⟩ := id hm2
      refine ⟨_, ?_, th0 M' 0⟩
      rw [ms M' hm2, h1]
      simp only [gX12_tried_36, bIf, if_true]
  | true =>
    cases h : inD a3 with
    | false =>
      have hd : ∀ M : zM, gX11_isDays S a3 M = some (bI false) := fun M => by rw [e_isDays, h]
      have md : ∀ M : zM, gX12_isAhead S a3 M = some (bI false) := fun M => by rw [e_isAhead, h]
      refine ⟨-1, M, ?_, cFr.refl' hR, ?_⟩
      · rw [cs, h1]
        simp only [gX11_tried_34, if_neg bIt, ↓bind_of (hd M), bIf, if_true]
      · skip
        intro M' hm
        have hm2 : mIx S M' E K im st no tp fl := hm
        obtain ⟨mS', mE, mK, mim, mst, mno, mtp, mfl, mmd⟩ := id hm2
        refine ⟨_, ?_, th0 M' 0⟩
        rw [ms M' hm2, h1]
        simp only [gX12_tried_36, if_neg bIt, ↓bind_of (md _), bIf, if_true]
    | true =>
      have hd : ∀ M : zM, gX11_isDays S a3 M = some (bI true) := fun M => by rw [e_isDays, h]
      have md : ∀ M : zM, gX12_isAhead S a3 M = some (bI true) := fun M => by rw [e_isAhead, h]
      obtain ⟨n, hn, rfl⟩ := inD_ex h
      obtain ⟨k, i, hk, rfl, rfl, hi⟩ := okT_ex hT6 h1
      obtain ⟨M1, e1, e2, e3, e4⟩ := c_goesOf hS hR ht h03 hV wE
      obtain ⟨M2, d1, d2, d3, d4⟩ := c_differs (k := k) (i := i) e2 hk hi
      have R2 : M2.2.2 = M1.2.2 := by rw [d3]
      obtain ⟨M3, f1, f2, f3, f4⟩ := c_copy (M := M2) (p := 116) (p' := 107) (pSs_of hS d2.1.2.1 116 (by decide)) (pSs_of hS d2.1.2.1 107 (by decide)) (by omega) hP12 (pSv_cg (fun a b k1 k2 => by rw [d4 a b (by omega), e4 a b (by omega)]) hK)
      have R3 : M3.2.2 = M2.2.2 := by rw [f2]
      have c3 : cOk S M3.2.2 M3.1 t E (moT E k i) := R3 ▸ cOk_cg (fun a b k => f4 a b (by omega)) d2
      obtain ⟨M4, g1, g2, g3, g4, g5, g6⟩ := c_days2 (R := M3.2.2) (I := M3.1) (p := 116) (n := n) (mo := moT E k i) (by decide) (by omega) n zfu 0 9800 K le M3 rfl (fun _ _ _ => rfl) c3 f3 wK (by omega) (by omega) (by unfold zfu; omega)
      have g1' : gX0_daysGo S 134 116 (nI n) M3 = some M4 := g1
      have D1 := cD hS e2.1.2.1
      have D2 := cD hS d2.1.2.1
      have D3 := cD hS c3.1.2.1
      have D4 := cD hS g6.1.2.1
      have T4 := cT hS g6.1.2.1
      have off : ∀ a b, ¬ (a = 134 ∨ a = 168 ∨ (116 ≤ a ∧ a ≤ 124)) → M4.1 a b = M.1 a b := fun a b q => by rw [g5 a b (by omega), f4 a b (by omega), d4 a b (by omega), e4 a b (by omega)]
      have gT4 : ∀ (f : Nat → Option (Int32 × zM)), zgR S M4 0 11 14 3 f = f t := fun f => zgR_of ((hS 0 (by decide)).trans rfl) g6.1.2.2.2.2 M4 f rfl
      have hgi : ∀ (j : Nat) (f : Int32 → Option (Int32 × zM)), zgI S M4 t 10 18 j f = f (M4.1 t j) := fun j f => zgI_ok T0.1
      have u0 : M4.1 t 10 = nI (eW E) := by rw [off t 10 (by omega)]; exact hV.1.2.2.2.1
      have u5 := g2.1.2.2.2.2.2.1
      have hle : left E (dysS E (moT E k i) n K) ≤ eW E := lfN_le _ _ _ _
      refine ⟨nI (eW E - left E (dysS E (moT E k i) n K)), M4, ?_, cFr_of hR (g4.trans (R3.trans (R2.trans e3))) (fun a b q => off a b (by unfold cQ at q; omega)), ?_⟩
      · rw [cs, h1]
        simp (disch := first | omega | simp only [qI2, qL2, qC2, qF2]) only [gX11_tried_34, if_neg bIt, ↓bind_of (hd M), ↓D, ↓gT, ↓bind_of e1, ↓D1, ↓bind_of d1, ↓D2, ↓bind_of f1, ↓D3, ↓bind_of g1', ↓gT4, ↓hgi, ↓D4, ↓T4, u0, u5, pk_sub hle]
      · skip
        intro M' hm
        have hm2 : mIx S M' E K im st no tp fl := hm
        obtain ⟨mS', mE, mK, mim, mst, mno, mtp, mfl, mmd⟩ := id hm2
        rw [ms M' hm2, h1]
        have hK0 : pMk (zsI M' 306 0 0).1 0 E K := pMk_cg hP12 (fun a b k => zsI_ne (by unfold mS at k; omega)) mK
        obtain ⟨M5, x1, x2, x3⟩ := m_copies (M := zsI M' 306 0 0) (to := 1) (as := 0) mS' (by decide) (by decide) (by decide) hP12 hK0
        have x1' : gX12_copies S 306 1 0 (zsI M' 306 0 0) = some M5 := x1
        have mS5 : pMs S M5.2.2 := x3.1 ▸ mS'
        generalize htw : (if nI k = 0 then (5 : Int32) else nI k) = tw
        have htw2 : tw = (if k = 0 then 5 else nI k) := by
          rw [← htw]
          by_cases q : k = 0
          · rw [if_pos q, q]; rfl
          · rw [if_neg q, if_neg (nI_ne0 (by omega) (by omega))]
        have o7 : ∀ a b, ¬ (a = 306 ∧ (b = 47 ∨ b = 48)) → (zsI (zsI M5 306 47 tw) 306 48 (nI i)).1 a b = M5.1 a b := fun a b q => by rw [zsI_ne (by omega), zsI_ne (by omega)]
        have o5 : ∀ a b, ¬ mS 1 a b → ¬ (a = 306 ∧ b = 0) → M5.1 a b = M'.1 a b := fun a b q1 q2 => by rw [x3.2 a b q1, zsI_ne (by omega)]
        have mk7 : mOk S (zsI (zsI M5 306 47 tw) 306 48 (nI i)).2.2 (zsI (zsI M5 306 47 tw) 306 48 (nI i)).1 E (moT E k i) :=
          ⟨mS5, pME_cg (fun a b k1 k2 => by rw [o7 a b (by omega), o5 a b (by unfold mS; omega) (by omega)]) mE, moT_p (x := nI i) hT6 hk (by rw [zsI_ne (by omega), zsI_at, htw2]) (zsI_at _ _ _ _) (fun q => ⟨rfl, hi q⟩) (by rw [o7 306 49 (by decide), o5 306 49 (by unfold mS; omega) (by omega)]; exact mmd.2.2), wE, moT_ok wE hi⟩
        obtain ⟨M8, y1, y2, y3, y4, y5⟩ := m_goesOn2 (M0 := zsI (zsI M5 306 47 tw) 306 48 (nI i)) (n := n) (mo := moT E k i) moT_dr (by omega) n zfu 0 9800 K (zsI (zsI M5 306 47 tw) 306 48 (nI i)) fr.refl mk7 (pMk_cg hP12 (fun a b q => o7 a b (by unfold mS at q; omega)) x2) wK (by omega) (by omega) (by unfold zfu; omega)
        have y1' : gX12_goesOn S 306 (nI n) (zsI (zsI M5 306 47 tw) 306 48 (nI i)) = some M8 := y1
        have mS8 := y5.1
        have dn : gX12_doneMany S 306 1 (zsI (zsI M8 306 47 0) 306 48 (-1)) = some (nI (eW E - left E (dysS E (moT E k i) n K))) := e_doneMany (s := 1) (R := M8.2.2) (I := (zsI (zsI M8 306 47 0) 306 48 (-1)).1) mS8 (pME_cg (fun a b k1 k2 => by rw [zsI_ne (by omega), zsI_ne (by omega)]) y5.2.1) (pMk_cg hP12 (fun a b q => by rw [zsI_ne (by unfold mS at q; omega), zsI_ne (by unfold mS at q; omega)]) y2) wE (fun w hw => Nat.lt_of_le_of_lt (y3.2.2.1 w hw) (by decide)) (by decide) _ rfl rfl
        have t68 : gX12_tried_68 S 306 (nI i) (nI n) tw 306 M5 = some (nI (eW E - left E (dysS E (moT E k i) n K)), zsI (zsI M8 306 47 0) 306 48 (-1)) := by
          simp (disch := first | omega | simp only [qI2, qL2, qC2, qF2]) only [gX12_tried_68, ↓mH mS5, ↓bind_of y1', ↓mH mS8, ↓bind_of dn]
        refine ⟨zsI (zsI M8 306 47 0) 306 48 (-1), ?_, ?_⟩
        · simp (disch := first | omega | simp only [qI2, qL2, qC2, qF2]) only [gX12_tried_36, if_neg bIt, ↓bind_of (md _), ↓mH mS', ↓bind_of x1']
          rw [← htw] at t68
          by_cases q : nI k = 0
          · rw [if_pos q]; rw [if_pos q] at t68; exact t68
          · rw [if_neg q]; rw [if_neg q] at t68; exact t68
        · refine ⟨y4.1.trans x3.1, fun a b q => ?_⟩
          by_cases q7 : a = 306 ∧ b = 47
          · obtain ⟨rfl, rfl⟩ := q7
            rw [zsI_ne (by omega), zsI_at]
            exact mmd.1.symm
          by_cases q8 : a = 306 ∧ b = 48
          · obtain ⟨rfl, rfl⟩ := q8
            rw [zsI_at]
            exact mmd.2.1.symm
          · rw [zsI_ne (by omega), zsI_ne (by omega), y4.2 a b (fun q2 => q (mW_Q q2)), o7 a b (by omega), o5 a b (fun q2 => q (mS_Q q2)) (by unfold mQ at q; omega)]
