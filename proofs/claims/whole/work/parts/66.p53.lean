/-! pure part 53: fair, the model's rounds; P_fair -/
theorem m_closes {S : List (Nat × Nat)} {M : zM} {E : zEn} {K : zKa} {B x : Nat} {G : zGe} (hS : pMs S M.2.2) (hE : pME M.1 E) (hK : pMk M.1 0 E K) (wE : wfE E) (wK : wfK E K B) (hG : pGe M.1 340 G (eP E)) (hx : x < eP E) (hGx : G x = none) :
    ∃ (M2 : zM) (G2 : zGe), gX12_closes S 306 (nI x) M = some M2 ∧ M2.2.2 = M.2.2 ∧ (∀ a b, ¬ q40 a → M2.1 a b = M.1 a b) ∧ pGe M2.1 340 G2 (eP E) ∧ Rnd (wsh E K G) (kLs K) (eP E) x G G2 := by
  have hP12 := wE.2.1
  have hT6 := wE.1
  obtain ⟨M1, e1, e2, e3, e4, e5⟩ := m_cl7 (x2 := 0) (x3 := nI x) (R := M.2.2) (I := M.1) hS hE hK wE wK hG (eP E) zfu 0 M rfl (fun _ _ _ => rfl) (by omega) (by unfold zfu; omega)
  have hw0 := wsh_lt (E := E) (K := K) hx hGx
  have hw : ∀ k, M1.1 341 (itr (wsh E K G) k x) = nI (itr (wsh E K G) (k + 1) x) := fun k => by
    rw [e5 _ (Nat.zero_le _) (hw0 k).1 (hw0 k).2, (wsh_ok hx hGx _).1, itr_s]
    rfl
  obtain ⟨m, m1, m2, m3⟩ := walk0 (w := wsh E K G) (x := x) (fun k => (hw0 k).1)
  have r52 := m_cl52 (S := S) (M := M1) (w := wsh E K G) (x := x) (m := m) (e2 ▸ hS) hP12 (fun k => (hw0 k).1) hw m2 m3 m zfu 0 (fun _ => false) (by omega) (by unfold zfu; omega) (fun y => ⟨fun h => (by cases h), fun ⟨i, h, _⟩ => (by omega)⟩)
  have b0 : nI (bs (fun _ => false) 24) = 0 := by decide
  rw [b0] at r52
  obtain ⟨i, i1, i2⟩ := m2
  have hp : itr (wsh E K G) (m - i) (itr (wsh E K G) m x) = itr (wsh E K G) m x := by
    have h : itr (wsh E K G) (m - i) (itr (wsh E K G) i x) = itr (wsh E K G) m x := by rw [← itr_a, show m - i + i = m by omega]
    rw [i2] at h
    exact h
  obtain ⟨M2, G2, j2, f1, f2, f3, f4, f5, f6⟩ := m_cl82 (S := S) (R := M.2.2) (I := M1.1) (w := wsh E K G) (ls := kLs K) (P := eP E) (c := itr (wsh E K G) m x) (L := m - i) (G := G) hS hP12 (fun k => by rw [← itr_a]; exact (hw0 _).1) (fun k => by rw [← itr_a, ← itr_a, hw (k + m), show k + m + 1 = k + 1 + m by omega]) (fun h hh => by
    have q := hK.2.2.1 h hh
    rw [show 12 * 0 + h = h by omega] at q
    rw [e3 334 h (by omega)]
    exact ⟨q, by have := wK.1 h hh; omega⟩) (by omega) hp (m - i - 1) zfu 0 M1 G e2 (fun _ _ _ => rfl) (pGe_cg (fun j => e3 340 j (by omega)) hG) rgI_0 (by omega) (by unfold zfu; omega)
  refine ⟨M2, G2, ?_, f2, fun a b q => ?_, f4, ring_end (m := m) m1 (by omega) hp f5.1 f5.2 f6⟩
  · show gX12_closes_7 S zfu 306 0 (nI x) (nI 0) M = some M2
    rw [e1]
    have r52' : gX12_closes_52 S zfu 306 0 (nI x) M1 = _ := r52
    rw [r52']
    exact f1
  · unfold q40 at q
    rw [f3 a b (by omega), e3 a b (by omega)]
theorem m_f48 {S : List (Nat × Nat)} {R : Nat → Nat → Option Nat} {I : Nat → Nat → Int32} {E : zEn} {K : zKa} {B h : Nat} {x1 : Int32} {k38 : Nat → Int32 → Int32 → zM → Option (Int32 × zM)} (hS : pMs S R) (hE : pME I E) (hK : pMk I 0 E K) (wE : wfE E) (wK : wfK E K B) (hh : h < eP E) : ∀ (n fu : Nat) (M : zM) (G : zGe), M.2.2 = R → (∀ a b, ¬ q40 a → M.1 a b = I a b) → pGe M.1 340 G (eP E) → (∀ j, j < h → G j ≠ none) → unG G (eP E) ≤ n → n < fu →
    ∃ (M2 : zM) (G2 : zGe), gX12_fair_48 S k38 fu 306 x1 (nI h) M = k38 306 x1 (nI (h + 1)) M2 ∧ M2.2.2 = R ∧ (∀ a b, ¬ q40 a → M2.1 a b = I a b) ∧ pGe M2.1 340 G2 (eP E) ∧ zFs E K G G2 ∧ ∀ j, j < h + 1 → G2 j ≠ none := by
  have hP12 := wE.2.1
  intro n
  induction n with
  | zero =>
    intro fu M G hMR hI hG hj hu hf
    obtain ⟨fu, rfl⟩ : ∃ f, fu = f + 1 := ⟨fu - 1, by omega⟩
    cases q : G h with
    | none =>
      have := unG_0 hh q
      omega
    | some v =>
      have g' : ¬ M.1 340 h = -1 := fun e => by rw [(pGn hG hh).1 e] at q; cases q
      refine ⟨M, G, ?_, hMR, hI, hG, zFs.refl G, fun j h1 => ?_⟩
      · simp (disch := first | omega | simp only [qI2, hMR]) only [gX12_fair_48, ↓mH hS, ↓mG hS, ↓if_neg g', nI_1]
      · by_cases e : j = h
        · rw [e, q]; exact Option.some_ne_none _
        · exact hj j (by omega)
  | succ n ih =>
    intro fu M G hMR hI hG hj hu hf
    obtain ⟨fu, rfl⟩ : ∃ f, fu = f + 1 := ⟨fu - 1, by omega⟩
    cases q : G h with
    | some v =>
      have g' : ¬ M.1 340 h = -1 := fun e => by rw [(pGn hG hh).1 e] at q; cases q
      refine ⟨M, G, ?_, hMR, hI, hG, zFs.refl G, fun j h1 => ?_⟩
      · simp (disch := first | omega | simp only [qI2, hMR]) only [gX12_fair_48, ↓mH hS, ↓mG hS, ↓if_neg g', nI_1]
      · by_cases e : j = h
        · rw [e, q]; exact Option.some_ne_none _
        · exact hj j (by omega)
    | none =>
      have g' : M.1 340 h = -1 := (pGn hG hh).2 q
      have hE' : pME M.1 E := pME_cg (fun a b k1 k2 => hI a b (by unfold q40; omega)) hE
      have hK' : pMk M.1 0 E K := pMk_cg hP12 (fun a b q => hI a b (by unfold mS at q; unfold q40; omega)) hK
      obtain ⟨M1, G1, e1, e2, e3, e4, e5⟩ := m_closes (hMR ▸ hS) hE' hK' wE wK hG hh q
      have hw0 := wsh_lt (E := E) (K := K) hh q
      obtain ⟨L, hL, hp⟩ := per_of (w := wsh E K G) (P := eP E) (x := h) (fun k => (hw0 k).1)
      have hu1 := Rnd_un hL hp hw0 e5
      obtain ⟨M2, G2, d1, d2, d3, d4, d5, d6⟩ := ih fu M1 G1 (e2.trans hMR) (fun a b k => (e3 a b k).trans (hI a b k)) e4 (fun j k => Rnd_mono hL hp e5 (hj j k)) (by omega) (by omega)
      refine ⟨M2, G2, ?_, d2, d3, d4, zFs.step (lfG_is (Nat.zero_le _) (by omega) q (fun j _ k => hj j k)) e5 d5, d6⟩
      rw [← d1]
      simp (disch := first | omega | simp only [qI2, hMR]) only [gX12_fair_48, ↓mH hS, ↓mG hS, ↓if_pos g', ↓bind_of e1]
theorem m_f38 {S : List (Nat × Nat)} {R : Nat → Nat → Option Nat} {I : Nat → Nat → Int32} {E : zEn} {K : zKa} {B i : Nat} (hS : pMs S R) (hE : pME I E) (hK : pMk I 0 E K) (wE : wfE E) (wK : wfK E K B) (hi : i < eP E) : ∀ (k fu h : Nat) (M : zM) (G : zGe), M.2.2 = R → (∀ a b, ¬ q40 a → M.1 a b = I a b) → pGe M.1 340 G (eP E) → (∀ j, j < h → G j ≠ none) → h + k = eP E → k < fu →
    ∃ (M2 : zM) (G2 : zGe), gX12_fair_38 S fu 306 (nI i) (nI h) M = some (oI (G2 i), M2) ∧ M2.2.2 = R ∧ (∀ a b, ¬ q40 a → M2.1 a b = I a b) ∧ zFs E K G G2 ∧ lfG G2 (eP E) 0 = none := by
  have hP12 := wE.2.1
  intro k
  induction k with
  | zero =>
    intro fu h M G hMR hI hG hj hk hf
    obtain ⟨fu, rfl⟩ : ∃ f, fu = f + 1 := ⟨fu - 1, by omega⟩
    have hc : eP E ≤ h := by omega
    have hP : M.1 308 1 = nI (eP E) := (hI 308 1 (by unfold q40; omega)).trans hE.1.2.1
    have g := (hG i hi).1
    refine ⟨M, G, ?_, hMR, hI, zFs.refl G, lfG_all (fun j h1 h2 => hj j (by omega))⟩
    simp (disch := first | omega | simp only [qI2, hMR]) only [gX12_fair_38, ↓mH hS, ↓mL hS, hP, nI_leI, ↓if_pos hc, ↓mG hS, g]
  | succ k ih =>
    intro fu h M G hMR hI hG hj hk hf
    obtain ⟨fu, rfl⟩ : ∃ f, fu = f + 1 := ⟨fu - 1, by omega⟩
    have hc : ¬ eP E ≤ h := by omega
    have hP : M.1 308 1 = nI (eP E) := (hI 308 1 (by unfold q40; omega)).trans hE.1.2.1
    obtain ⟨M1, G1, e1, e2, e3, e4, e5, e6⟩ := m_f48 (x1 := nI i) (k38 := gX12_fair_38 S fu) hS hE hK wE wK (show h < eP E by omega) 12 zfu M G hMR hI hG hj (Nat.le_trans (sR_b01 _ _ _) hP12) (by unfold zfu; omega)
    obtain ⟨M2, G2, d1, d2, d3, d4, d5⟩ := ih fu (h + 1) M1 G1 e2 e3 e4 e6 (by omega) (by omega)
    refine ⟨M2, G2, ?_, d2, d3, zFs_t e5 d4, d5⟩
    rw [← d1, ← e1]
    simp (disch := first | omega | simp only [qI2, hMR]) only [gX12_fair_38, ↓mH hS, ↓mL hS, hP, nI_leI, if_neg hc]
theorem m_f17 {S : List (Nat × Nat)} {R : Nat → Nat → Option Nat} {x1 : Int32} (hS : pMs S R) : ∀ (k fu i : Nat) (M : zM), M.2.2 = R → i + k = 12 → k < fu →
    ∃ M2, gX12_fair_17 S fu 306 x1 (nI i) M = gX12_fair_38 S zfu 306 x1 0 M2 ∧ M2.2.2 = R ∧ (∀ a b, ¬ a = 340 → M2.1 a b = M.1 a b) ∧ (∀ j, j < i → M2.1 340 j = M.1 340 j) ∧ ∀ j, i ≤ j → j < 12 → M2.1 340 j = -1 := by
  intro k
  induction k with
  | zero =>
    intro fu i M hMR hk hf
    obtain ⟨fu, rfl⟩ : ∃ f, fu = f + 1 := ⟨fu - 1, by omega⟩
    have hc : 12 ≤ i := by omega
    refine ⟨M, ?_, hMR, fun _ _ _ => rfl, fun _ _ => rfl, fun j h1 h2 => by omega⟩
    simp (disch := first | omega | simp only [qI2, hMR]) only [gX12_fair_17, li12, nI_leI, ↓if_pos hc]
  | succ k ih =>
    intro fu i M hMR hk hf
    obtain ⟨fu, rfl⟩ : ∃ f, fu = f + 1 := ⟨fu - 1, by omega⟩
    have hc : ¬ 12 ≤ i := by omega
    obtain ⟨M2, e1, e2, e3, e4, e5⟩ := ih fu (i + 1) (zsI M 340 i (-1)) hMR (by omega) (by omega)
    refine ⟨M2, ?_, e2, fun a b q => by rw [e3 a b q, zsI_ne (by omega)], fun j h1 => by rw [e4 j (by omega), zsI_ne (by omega)], fun j h1 h2 => ?_⟩
    · rw [← e1]
      simp (disch := first | omega | simp only [qI2, hMR]) only [gX12_fair_17, li12, nI_leI, if_neg hc, ↓mH hS, ↓mG hS, nI_1]
    · by_cases e : j = i
      · rw [e, e4 i (by omega), zsI_at]
      · exact e5 j (by omega) h2
theorem P_fair : zP_fair zInv := by
  intro S M hM a1
  refine zq (f := gX11_fair S 0 a1) (g := gX12_fair S 306 a1) ?_ M hM
  intro A M hw hc
  obtain ⟨t, E, K, le, im, st, no, tp, fl⟩ := A
  have hc2 : cIx S M t E K le im st no tp fl := hc
  have hw2 : aWx E K im st no tp fl := hw
  obtain ⟨⟨hS, hR, ht, h03, h04⟩, hV, hK, him, hst, hno, htp, hfl⟩ := hc2
  obtain ⟨wE, wK, wim, wst, wno, wtp, wfl⟩ := hw2
  have hT6 := wE.1
  have hP12 := wE.2.1
  have hW5 := wE.2.2.2.1
  have T0 := pTs_of hS hR t (Or.inr ht)
  have N0 := pSs_of hS hR 107 (by decide)
  have gT : ∀ (ρ : Type) (M' : zM) (f : Nat → Option ρ), M'.2.2 = M.2.2 → zgR S M' 0 11 14 3 f = f t := fun ρ M' f h => zgR_of ((hS 0 (by decide)).trans rfl) h03 M' f h
  have D := cD hS hR
  have N := cN hS hR
  have EE := cE hS hR
  have hp := e_hasPlace (M := M) (x := a1) N0.1 hK.1.2.2.2.2.2.2.2.2.2.2
  have mp : ∀ M' : zM, mIx S M' E K im st no tp fl → gX12_isPlace S 306 a1 (zsI M' 306 0 0) = some (bI (inR (eP E) a1)) := fun M' hm => e_isPlace (M := zsI M' 306 0 0) hm.1 ((zsI_ne (by omega)).trans hm.2.1.1.2.1)
  cases h : inR (eP E) a1 with
  | false =>
    rw [h] at hp mp
    refine ⟨-1, M, ?_, cFr.refl' hR, ?_⟩
    · simp (disch := first | omega | simp only [qI2, qL2, qC2, qF2]) only [gX11_fair, ↓D, ↓N, ↓bind_of hp, bIf, if_true]
    · skip
      intro M' hm
      have hm2 : mIx S M' E K im st no tp fl := hm
      obtain ⟨mS', mE, mK, mim, mst, mno, mtp, mfl, mmd⟩ := id hm2
      refine ⟨_, ?_, th0 M' 0⟩
      simp (disch := first | omega | simp only [qI2, qL2, qC2, qF2]) only [gX12_fair, ↓mH mS', ↓bind_of (mp M' hm), bIf, if_true]
  | true =>
    rw [h] at hp mp
    obtain ⟨j, hj, rfl⟩ := inR_ex (by omega) h
    have fi := e_fill (S := S) (M := M) (r := 186) (v := -1) (row_of hS hR 186 12 (by decide))
    obtain ⟨M2, G2, e1, e2, e3, e4, e5, e6⟩ := c_share10 (S := S) (R := M.2.2) (I := M.1) (t := t) (E := E) (K := K) (le := le) (B := 9800) hS hR T0 ht hV hK wE wK (eP E) zfu 0 (zfl M 187 (-1) 0 12) (fun _ => none) rfl (fun a b q => zfl_ne (Or.inl (fun h => q (Or.inl h)))) (fun j hj => ⟨zfl_at (by omega), fun v hv => by cases hv⟩) (sR_b01 _ _ _) (by omega) (by unfold zfu; omega)
    have e1' : gX6_share_10 S zfu 185 t 107 0 (zfl M 187 (-1) 0 12) = some M2 := e1
    have sh : gX6_share S 185 t 107 M = some M2 := by
      simp (disch := first | omega | simp only [qI2, qL2, qC2, qF2]) only [gX6_share, ↓D, ↓EE, ↓bind_of fi]
      exact e1'
    have R2 : pRf M2.2.2 := e2 ▸ hR
    have D2 := cD hS R2
    have E2 := cE hS R2
    have ge := (e4 j hj).1
    refine ⟨oI (G2 j), M2, ?_, ⟨fun a b q => e3 a b (by unfold cQ at q; unfold q87; omega), R2, by rw [e2], by rw [e2]⟩, ?_⟩
    · simp (disch := first | omega | simp only [qI2, qL2, qC2, qF2]) only [gX11_fair, ↓gT, ↓D, ↓N, ↓bind_of hp, if_neg bIt, ↓bind_of sh, ↓D2, ↓E2, ge]
    · skip
      intro M' hm
      have hm2 : mIx S M' E K im st no tp fl := hm
      obtain ⟨mS', mE, mK, mim, mst, mno, mtp, mfl, mmd⟩ := id hm2
      obtain ⟨M5, f1, f2, f3, f4, f5⟩ := m_f17 (x1 := nI j) mS' 12 zfu 0 (zsI M' 306 0 0) rfl (by omega) (by unfold zfu; omega)
      have f1' : gX12_fair_17 S zfu 306 (nI j) 0 (zsI M' 306 0 0) = _ := f1
      obtain ⟨M6, G6, d1, d2, d3, d4, d5⟩ := m_f38 (S := S) (R := M'.2.2) (I := M5.1) (E := E) (K := K) (B := 9800) (i := j) mS' (pME_cg (fun a b k1 k2 => by rw [f3 a b (by omega), zsI_ne (by omega)]) mE) (pMk_cg hP12 (fun a b q => by unfold mS at q; rw [f3 a b (by omega), zsI_ne (by omega)]) mK) wE wK hj (eP E) zfu 0 M5 (fun _ => none) f2 (fun _ _ _ => rfl) (fun j hj => ⟨f5 j (Nat.zero_le _) (by omega), fun v hv => by cases hv⟩) (fun j h => by omega) (by omega) (by unfold zfu; omega)
      have d1' : gX12_fair_38 S zfu 306 (nI j) 0 M5 = _ := d1
      have eG : G2 = G6 := zFs_u e5 e6 d4 d5
      refine ⟨M6, ?_, d2, fun a b q => ?_⟩
      · simp (disch := first | omega | simp only [qI2, qL2, qC2, qF2]) only [gX12_fair, ↓mH mS', ↓bind_of (mp M' hm), if_neg bIt]
        rw [f1', d1', eG]
      · rw [d3 a b (by unfold mQ at q; unfold q40; omega), f3 a b (by unfold mQ at q; omega), zsI_ne (by unfold mQ at q; omega)]
