/-! pure part 48: ask, the model; the call -/
def mA5 (a b : Nat) : Prop := mW 1 a b ∨ (a = 306 ∧ b = 50) ∨ a = 347
theorem m_ak59 {S : List (Nat × Nat)} {M0 : zM} {E : zEn} {tr h : Nat} {x2 x3 : Int32} {k38 : Nat → Int32 → Int32 → Int32 → zM → Option (Int32 × zM)} (hh : h < 24) : ∀ (k fu t : Nat) (M : zM), fr mA5 M0 M → mOk S M.2.2 M.1 E (moH E tr h) → pMk M.1 1 E (dysS E (moH E tr h) (t - 1) (K0 E)) → wfK E (dysS E (moH E tr h) (t - 1) (K0 E)) t → 1 ≤ t → t + k = 61 → k < fu →
    ∃ M', gX12_ask_59 S k38 fu 306 x2 x3 (nI h) (nI t) M = k38 306 x2 x3 (nI (h + 1)) M' ∧ fr mA5 M0 M' ∧ (∀ e, t ≤ e → e ≤ 60 → M'.1 347 (61 * h + e) = lbS E tr h e) ∧ (∀ b, ¬ (61 * h + t ≤ b ∧ b < 61 * h + 61) → M'.1 347 b = M.1 347 b) := by
  intro k
  induction k with
  | zero =>
    intro fu t M hf0 hm hK wK ht hk hf
    obtain ⟨fu, rfl⟩ : ∃ f, fu = f + 1 := ⟨fu - 1, by omega⟩
    have hb : 60 < t := by omega
    refine ⟨M, ?_, hf0, fun e h1 h2 => by omega, fun _ _ => rfl⟩
    simp (disch := first | omega | simp only [qI2, qL2, qC2, qF2]) only [gX12_ask_59, li60, nI_ltI, ↓if_pos hb, nI_1]
  | succ k ih =>
    intro fu t M hf0 hm hK wK ht hk hf
    obtain ⟨fu, rfl⟩ : ∃ f, fu = f + 1 := ⟨fu - 1, by omega⟩
    have hb : ¬ 60 < t := by omega
    obtain ⟨M1, a1, a2, a3, a4, a5⟩ := m_day hm (by decide) hK wK (by omega)
    have a1' : gX12_passes S 306 1 0 M = some M1 := a1
    rw [dysS_snoc, show t - 1 + 1 = t by omega] at a2 a3
    have hS := hm.1
    have hS1 := a5.1
    have l1 : M1.1 330 1 = lbS E tr h t := a2.1.2.2.2.2.2.2.1
    have f1 : fr mA5 M0 M1 := hf0.trans (a4.mono (fun a b q => Or.inl q))
    have f5 : fr mA5 M0 (zsI M1 347 (61 * h + t) (lbS E tr h t)) := f1.sI (Or.inr (Or.inr rfl))
    obtain ⟨M', b1, b2, b3, b4⟩ := ih fu (t + 1) (zsI M1 347 (61 * h + t) (lbS E tr h t)) f5 ⟨hS1, pME_cg (fun a b k1 k2 => zsI_ne (by omega)) a5.2.1, pMo_cg (fun b k1 k2 => zsI_ne (by omega)) a5.2.2.1, a5.2.2.2.1, a5.2.2.2.2⟩ (pMk_cg a5.2.2.2.1.2.1 (fun a b q => zsI_ne (by unfold mS at q; omega)) a2) (wfK_to a3 (by rw [kDy_dys]; show 0 + t ≤ t + 1; omega)) (by omega) (by omega) (by omega)
    refine ⟨M', ?_, b2, fun e h1 h2 => ?_, fun b q => by rw [b4 b (by omega), zsI_ne (by omega), a4.2 347 b (by unfold mW mS; omega)]⟩
    · simp (disch := first | omega | simp only [qI2, qL2, qC2, qF2]) only [gX12_ask_59, li60, li61, nI_ltI, if_neg hb, ↓mH hS, ↓bind_of a1', ↓mH hS1, ↓mL hS1, l1, pk_mul, nI_add, mG hS1, nI_1]
      exact b1
    · by_cases q : e = t
      · subst q
        rw [b4 _ (by omega), zsI_at]
      · exact b3 e (by omega) h2
theorem m_ak38 {S : List (Nat × Nat)} {M0 : zM} {E : zEn} {tr : Nat} {x2 x3 : Int32} (hS : pMs S M0.2.2) (hE : pME M0.1 E) (wE : wfE E) (htr : tr < eT E) (h47 : M0.1 306 47 = 0) (h49 : M0.1 306 49 = nI tr) : ∀ (k fu h : Nat) (M : zM), fr mA5 M0 M → h + k = 24 → (∀ g e, g < h → 1 ≤ e → e ≤ 60 → M.1 347 (61 * g + e) = lbS E tr g e) → k < fu →
    ∃ M', gX12_ask_38 S fu 306 x2 x3 (nI h) M = gX12_ask_114 S zfu 306 x2 x3 1 2 (zsI M' 306 49 (-1)) ∧ fr mA5 M0 M' ∧ (∀ g e, g < 24 → 1 ≤ e → e ≤ 60 → M'.1 347 (61 * g + e) = lbS E tr g e) := by
  have hT6 := wE.1
  have hP12 := wE.2.1
  intro k
  induction k with
  | zero =>
    intro fu h M hf0 hk hL hf
    obtain ⟨fu, rfl⟩ : ∃ f, fu = f + 1 := ⟨fu - 1, by omega⟩
    have hb : 24 ≤ h := by omega
    have hSM : pMs S M.2.2 := hf0.1 ▸ hS
    refine ⟨M, ?_, hf0, fun g e h1 => hL g e (by omega)⟩
    simp (disch := first | omega | simp only [qI2, qL2, qC2, qF2]) only [gX12_ask_38, li24, nI_leI, ↓if_pos hb, ↓mH hSM]
  | succ k ih =>
    intro fu h M hf0 hk hL hf
    obtain ⟨fu, rfl⟩ : ∃ f, fu = f + 1 := ⟨fu - 1, by omega⟩
    have hb : ¬ 24 ≤ h := by omega
    have hSM : pMs S M.2.2 := hf0.1 ▸ hS
    have o2 : ∀ a b, ¬ mA5 a b → (zsI M 306 50 (nI h)).1 a b = M0.1 a b := fun a b q => by rw [zsI_ne (by unfold mA5 mW mS at q; omega)]; exact hf0.2 a b q
    have E2 : pME (zsI M 306 50 (nI h)).1 E := pME_cg (fun a b k1 k2 => o2 a b (by unfold mA5 mW mS; omega)) hE
    obtain ⟨M3, s1, s2, s3⟩ := m_starts (M := zsI M 306 50 (nI h)) (s := 1) hSM (by decide) wE E2
    have s1' : gX12_starts S 306 1 (zsI M 306 50 (nI h)) = some M3 := s1
    have mo3 : pMo M3.1 E (moH E tr h) := pMo_H hT6 htr (by rw [s3.2 306 47 (by unfold mS; omega), o2 306 47 (by unfold mA5 mW mS; omega)]; exact h47) (by rw [s3.2 306 49 (by unfold mS; omega), o2 306 49 (by unfold mA5 mW mS; omega)]; exact h49) (by rw [s3.2 306 50 (by unfold mS; omega), zsI_at])
    have k3 : mOk S M3.2.2 M3.1 E (moH E tr h) := ⟨s3.1 ▸ hSM, pME_cg (fun a b k1 k2 => s3.2 a b (by unfold mS; omega)) E2, mo3, wE, moH_ok wE (by omega)⟩
    have f3 : fr mA5 M0 M3 := (hf0.sI (k := 306) (j := 50) (x := nI h) (Or.inr (Or.inl ⟨rfl, rfl⟩))).trans (s3.mono (fun a b q => Or.inl (Or.inr q)))
    obtain ⟨M4, g1, g2, g3, g4⟩ := m_ak59 (S := S) (M0 := M0) (E := E) (tr := tr) (h := h) (x2 := x2) (x3 := x3) (k38 := gX12_ask_38 S fu) (by omega) 60 zfu 1 M3 f3 k3 s2 (wfK_to (wfK_K0 wE) (by show 0 ≤ 1; omega)) (Nat.le_refl _) (by omega) (by unfold zfu; omega)
    have g1' : gX12_ask_59 S (gX12_ask_38 S fu) zfu 306 x2 x3 (nI h) 1 M3 = _ := g1
    obtain ⟨M', b1, b2, b3⟩ := ih fu (h + 1) M4 g2 (by omega) (fun g e q1 q2 q3 => by
      by_cases q : g = h
      · subst q
        exact g3 e q2 q3
      · rw [g4 _ (by omega), s3.2 347 _ (by unfold mS; omega), zsI_ne (by omega)]
        exact hL g e (by omega) q2 q3) (by omega)
    refine ⟨M', ?_, b2, b3⟩
    simp (disch := first | omega | simp only [qI2, qL2, qC2, qF2]) only [gX12_ask_38, li24, nI_leI, if_neg hb, ↓mH hSM, ↓bind_of s1', g1']
    exact b1
theorem bqS_le {w : Nat → Nat} : ∀ k d b, 1 ≤ b → b ≤ 60 → 1 ≤ d → d + k ≤ 61 → 1 ≤ bqS w k d b ∧ bqS w k d b ≤ 60
  | 0, _, _, h1, h2, _, _ => ⟨h1, h2⟩
  | k + 1, d, b, h1, h2, h3, h4 => by
    show 1 ≤ bqS w k (d + 1) (if w d < w b then d else b) ∧ _
    exact bqS_le k (d + 1) _ (by split <;> omega) (by split <;> omega) (by omega) (by omega)
theorem m_ak114 {S : List (Nat × Nat)} {M : zM} {E : zEn} {tr x2 : Nat} {no : zNot} (hS : pMs S M.2.2) (wE : wfE E) (hx : x2 ≤ 1) (hL : ∀ g e, g < 24 → 1 ≤ e → e ≤ 60 → M.1 347 (61 * g + e) = lbS E tr g e) : ∀ (k fu d b : Nat), 1 ≤ b → b ≤ 60 → 1 ≤ d → d + k = 61 → k < fu →
    gX12_ask_114 S fu 306 (nI x2) (nI (hrS E no tr)) (nI b) (nI d) M = some (if x2 = 0 then nI (bqS (wsF E no tr) k d b) else nI (wsF E no tr (bqS (wsF E no tr) k d b)), M) := by
  intro k
  induction k with
  | zero =>
    intro fu d b h1 h2 h3 hk hf
    obtain ⟨fu, rfl⟩ : ∃ f, fu = f + 1 := ⟨fu - 1, by omega⟩
    have hb : 60 < d := by omega
    have w := m_worstAt (S := S) (M := M) (t := b) (tr := tr) (E := E) (no := no) hS wE h1 h2 (fun g hg => hL g b hg h1 h2)
    have n10 : ¬ nI 1 = 0 := by decide
    have n00 : nI 0 = 0 := rfl
    rcases (show x2 = 0 ∨ x2 = 1 by omega) with rfl | rfl
    · simp (disch := first | omega | simp only [qI2, qL2, qC2, qF2]) only [gX12_ask_114, li60, nI_ltI, ↓if_pos hb, ↓if_pos n00]
      rfl
    · simp (disch := first | omega | simp only [qI2, qL2, qC2, qF2]) only [gX12_ask_114, li60, nI_ltI, ↓if_pos hb, ↓if_neg n10, ↓mH hS, ↓bind_of w]
      rfl
  | succ k ih =>
    intro fu d b h1 h2 h3 hk hf
    obtain ⟨fu, rfl⟩ : ∃ f, fu = f + 1 := ⟨fu - 1, by omega⟩
    have hb : ¬ 60 < d := by omega
    have w1 := m_worstAt (S := S) (M := M) (t := d) (tr := tr) (E := E) (no := no) hS wE h3 (by omega) (fun g hg => hL g d hg h3 (by omega))
    have w2 := m_worstAt (S := S) (M := M) (t := b) (tr := tr) (E := E) (no := no) hS wE h1 h2 (fun g hg => hL g b hg h1 h2)
    have l1 := wsF_le (E := E) (no := no) (tr := tr) (d := d)
    have l2 := wsF_le (E := E) (no := no) (tr := tr) (d := b)
    have e : bqS (wsF E no tr) (k + 1) d b = bqS (wsF E no tr) k (d + 1) (if wsF E no tr d < wsF E no tr b then d else b) := rfl
    rw [e]
    by_cases q : wsF E no tr b ≤ wsF E no tr d
    · rw [if_neg (show ¬ wsF E no tr d < wsF E no tr b by omega)]
      simp (disch := first | omega | simp only [qI2, qL2, qC2, qF2]) only [gX12_ask_114, li60, nI_ltI, if_neg hb, ↓mH hS, ↓bind_of w1, ↓bind_of w2, nI_leI, if_pos q, nI_1]
      exact ih fu (d + 1) b h1 h2 (by omega) (by omega) (by omega)
    · rw [if_pos (show wsF E no tr d < wsF E no tr b by omega)]
      simp (disch := first | omega | simp only [qI2, qL2, qC2, qF2]) only [gX12_ask_114, li60, nI_ltI, if_neg hb, ↓mH hS, ↓bind_of w1, ↓bind_of w2, nI_leI, if_neg q, nI_1]
      exact ih fu (d + 1) d h3 (by omega) (by omega) (by omega) (by omega)
theorem P_ask : zP_ask zInv := by
  intro S M hM a1 a2
  refine zq (f := gX11_ask S 0 a1 a2) (g := gX12_ask S 306 a1 a2) ?_ M hM
  intro A M hw hc
  obtain ⟨t, E, K, le, im, st, no, tp, fl⟩ := A
  have hc2 : cIx S M t E K le im st no tp fl := hc
  have hw2 : aWx E K im st no tp fl := hw
  obtain ⟨⟨hS, hR, ht, h03, h04⟩, hV, hK, him, hst, hno, htp, hfl⟩ := hc2
  obtain ⟨wE, wK, wim, wst, wno, wtp, wfl⟩ := hw2
  have hT6 := wE.1
  have hP12 := wE.2.1
  have hW5 := wE.2.2.2.1
  have T0 := pTs_of hS hR t (Or.inr ht)
  have N0 := pSs_of hS hR 107 (by decide)
  have gT : ∀ (ρ : Type) (M' : zM) (f : Nat → Option ρ), M'.2.2 = M.2.2 → zgR S M' 0 11 14 3 f = f t := fun ρ M' f h => zgR_of ((hS 0 (by decide)).trans rfl) h03 M' f h
  have D := cD hS hR
  have hrc : ∀ (ρ : Type) (o : Option ρ), zrc S t 10 18 o = o := fun ρ o => zrc_ok T0.1
  have hp := e_hasTrade (M := M) (x := a1) T0.1 hV.1.1
  have mp : ∀ M' : zM, mIx S M' E K im st no tp fl → gX12_isTrade S 306 a1 (zsI M' 306 0 0) = some (bI (inR (eT E) a1)) := fun M' hm => e_isTrade (M := zsI M' 306 0 0) hm.1 ((zsI_ne (by omega)).trans hm.2.1.1.1)
  cases h : inR (eT E) a1 with
  | false =>
    rw [h] at hp mp
    refine ⟨-1, M, ?_, cFr.refl' hR, ?_⟩
    · simp (disch := first | omega | simp only [qI2, qL2, qC2, qF2]) only [gX11_ask, ↓gT, ↓hrc, ↓bind_of hp, bIf, if_true]
    · skip
      intro M' hm
      have hm2 : mIx S M' E K im st no tp fl := hm
      obtain ⟨mS', mE, mK, mim, mst, mno, mtp, mfl, mmd⟩ := id hm2
      refine ⟨_, ?_, th0 M' 0⟩
      simp (disch := first | omega | simp only [qI2, qL2, qC2, qF2]) only [gX12_ask, ↓mH mS', ↓bind_of (mp M' hm2), bIf, if_true]
  | true =>
    rw [h] at hp mp
    obtain ⟨j, hj, rfl⟩ := inR_ex (by omega) h
    by_cases c0 : a2 < 0
    · refine ⟨-1, M, ?_, cFr.refl' hR, ?_⟩
      · simp (disch := first | omega | simp only [qI2, qL2, qC2, qF2]) only [gX11_ask, ↓gT, ↓hrc, ↓bind_of hp, if_neg bIt, ↓if_pos c0]
      · skip
        intro M' hm
        have hm2 : mIx S M' E K im st no tp fl := hm
        obtain ⟨mS', mE, mK, mim, mst, mno, mtp, mfl, mmd⟩ := id hm2
        refine ⟨_, ?_, th0 M' 0⟩
        simp (disch := first | omega | simp only [qI2, qL2, qC2, qF2]) only [gX12_ask, ↓mH mS', ↓bind_of (mp M' hm2), if_neg bIt, ↓if_pos c0]
    by_cases c1 : a2 ≤ (1 : Int32)
    · obtain ⟨x2, hx2, rfl⟩ := nI_of2 (x := a2) (M := 1) (n := 1) (by decide) c0 c1
      obtain ⟨M3, e1, e2, e3, e4, e5⟩ := c_watch (least := 60) hS hR ht h03 hV wE hno wno hj (by omega)
      have e1' : gX11_watchHours S 0 (nI j) 60 M = some M3 := e1
      have R3 : pRf M3.2.2 := by rw [e2]; exact pRf_u2 hR (by decide +kernel)
      have D3 := cD hS R3
      have no3 : cNo M3.1 no := ⟨(e3 169 6 (by decide)).trans hno.1, (e3 169 7 (by decide)).trans hno.2.1, fun j hj => ⟨(e3 171 j (by omega)).trans (hno.2.2 j hj).1, (e3 173 j (by omega)).trans (hno.2.2 j hj).2.1, (e3 175 j (by omega)).trans (hno.2.2 j hj).2.2⟩⟩
      have ft := c_fitting (E := E) (tr := j) hS R3 no3 wno e4 (fun g e h1 h2 h3 => e5 g e h1 h2 (Or.inr h3))
      obtain ⟨M4, w1, w2, w3⟩ := c_worstOf (M := zsI M3 169 8 (nI 1)) (tr := j) (d := 1) (E := E) (no := no) hS R3 wE (by omega) (by omega) (fun g hg => by rw [zsI_ne (by omega)]; exact e5 g 1 hg (by omega) (Or.inl (by omega)))
      have w1' : gX2_worstOf S 169 1 (nI (hrS E no j)) (zsI M3 169 8 1) = some (nI (wsF E no j 1), M4) := w1
      have R4 : pRf M4.2.2 := by rw [w2]; exact R3
      have D4 := cD hS R4
      obtain ⟨M7, q1, q2, q3, q4, q5⟩ := c_sq17 (R := M4.2.2) (I := (zsI M4 169 9 (nI (wsF E no j 1))).1) (tr := j) (E := E) (no := no) hS R4 wE (fun g e h1 h2 h3 => by rw [zsI_ne (by omega), w3 179 _ (by omega), zsI_ne (by omega)]; exact e5 g e h1 h2 (Or.inl h3)) 59 zfu 2 1 (zsI M4 169 9 (nI (wsF E no j 1))) rfl (fun _ _ _ => rfl) (by rw [zsI_ne (by omega), w3 169 8 (by decide), zsI_at]) (zsI_at _ _ _ _) (by omega) (by omega) (by unfold zfu; omega)
      have q1' : gX2_seekQuestion_17 S zfu 169 (nI (hrS E no j)) 2 (zsI M4 169 9 (nI (wsF E no j 1))) = some M7 := q1
      have sq : gX2_seekQuestion S 169 (nI (hrS E no j)) M3 = some M7 := by
        simp (disch := first | omega | simp only [qI2, qL2, qC2, qF2]) only [gX2_seekQuestion, ↓D3, ↓zb2_of w1', ↓D4, q1']
      have R7 : pRf M7.2.2 := by rw [q2]; exact R4
      have D7 := cD hS R7
      have off : ∀ a b, ¬ (a = 134 ∨ a = 168 ∨ (116 ≤ a ∧ a ≤ 124) ∨ a = 177 ∨ a = 179 ∨ a = 181 ∨ (a = 169 ∧ 8 ≤ b)) → M7.1 a b = M.1 a b := fun a b q => by rw [q3 a b (by omega), zsI_ne (by omega), w3 a b (by omega), zsI_ne (by omega), e3 a b (by omega)]
      have rr : M7.2.2 = u2 M.2.2 134 0 (some t) := q2.trans (w2.trans e2)
      have cR : M7.2.2 0 3 = M.2.2 0 3 ∧ M7.2.2 0 4 = M.2.2 0 4 := by
        rw [rr]
        exact ⟨u2_o (by decide), u2_o (by decide)⟩
      refine ⟨if x2 = 0 then nI (bqS (wsF E no j) 59 2 1) else nI (wsF E no j (bqS (wsF E no j) 59 2 1)), M7, ?_, ⟨fun a b q => off a b (by unfold cQ at q; omega), R7, cR.1, cR.2⟩, ?_⟩
      · have n10 : ¬ nI 1 = 0 := by decide
        have n00 : nI 0 = 0 := rfl
        rcases (show x2 = 0 ∨ x2 = 1 by omega) with rfl | rfl
        · simp (disch := first | omega | simp only [qI2, qL2, qC2, qF2]) only [gX11_ask, ↓gT, ↓hrc, ↓bind_of hp, if_neg bIt, ↓if_neg c0, ↓if_pos c1, ↓D, ↓bind_of e1', ↓D3, ↓bind_of ft, ↓bind_of sq, ↓if_pos n00, ↓D7, q4]
          rfl
        · simp (disch := first | omega | simp only [qI2, qL2, qC2, qF2]) only [gX11_ask, ↓gT, ↓hrc, ↓bind_of hp, if_neg bIt, ↓if_neg c0, ↓if_pos c1, ↓D, ↓bind_of e1', ↓D3, ↓bind_of ft, ↓bind_of sq, ↓if_neg n10, ↓D7, q5]
          rfl
      · skip
        intro M' hm
        have hm2 : mIx S M' E K im st no tp fl := hm
        obtain ⟨mS', mE, mK, mim, mst, mno, mtp, mfl, mmd⟩ := id hm2
        obtain ⟨M9, g1, g2⟩ := m_hoursOf (M := zsI M' 306 0 0) (E := E) (tr := j) (no := no) mS' (pME_cg (fun a b k1 k2 => zsI_ne (by omega)) mE) wE wno (mNo_cg (fun a b q => zsI_ne (by omega)) mno) ⟨(zsI_ne (by omega)).trans mmd.1, (zsI_ne (by omega)).trans mmd.2.1, (zsI_ne (by omega)).trans mmd.2.2⟩ hj
        have f9 := (th0 M' 0).trans g2
        have mS9 : pMs S M9.2.2 := f9.1 ▸ mS'
        obtain ⟨M10, x1, x3, x4⟩ := m_ak38 (S := S) (M0 := zsI M9 306 49 (nI j)) (E := E) (tr := j) (x2 := nI x2) (x3 := nI (hrS E no j)) mS9 (pME_cg (fun a b k1 k2 => by rw [zsI_ne (by omega), f9.2 a b (by unfold mQ; omega)]) mE) wE hj (by rw [zsI_ne (by omega), f9.2 306 47 (by unfold mQ; omega)]; exact mmd.1) (zsI_at _ _ _ _) 24 zfu 0 (zsI M9 306 49 (nI j)) fr.refl (by omega) (fun g e q => by omega) (by unfold zfu; omega)
        have x1' : gX12_ask_38 S zfu 306 (nI x2) (nI (hrS E no j)) 0 (zsI M9 306 49 (nI j)) = _ := x1
        have mS10 : pMs S (zsI M10 306 49 (-1)).2.2 := x3.1 ▸ mS9
        have y := m_ak114 (S := S) (M := zsI M10 306 49 (-1)) (E := E) (tr := j) (x2 := x2) (no := no) mS10 wE hx2 (fun g e h1 h2 h3 => by rw [zsI_ne (by omega)]; exact x4 g e h1 h2 h3) 59 zfu 2 1 (by omega) (by omega) (by omega) (by omega) (by unfold zfu; omega)
        have y' : gX12_ask_114 S zfu 306 (nI x2) (nI (hrS E no j)) 1 2 (zsI M10 306 49 (-1)) = _ := y
        refine ⟨zsI M10 306 49 (-1), ?_, x3.1.trans f9.1, fun a b q => ?_⟩
        · simp (disch := first | omega | simp only [qI2, qL2, qC2, qF2]) only [gX12_ask, ↓mH mS', ↓bind_of (mp M' hm2), if_neg bIt, ↓if_neg c0, ↓if_pos c1, ↓zb2_of g1, ↓mH mS9]
          rw [x1', y']
        · by_cases q9 : a = 306 ∧ b = 49
          · obtain ⟨rfl, rfl⟩ := q9
            rw [zsI_at]
            exact mmd.2.2.symm
          · rw [zsI_ne (by omega), x3.2 a b (fun k => by
              rcases k with k | k | k
              · exact q (mW_Q k)
              · exact q (by unfold mQ; omega)
              · exact q (by unfold mQ; omega)), zsI_ne (by omega), f9.2 a b q]
    · refine ⟨-1, M, ?_, cFr.refl' hR, ?_⟩
      · simp (disch := first | omega | simp only [qI2, qL2, qC2, qF2]) only [gX11_ask, ↓gT, ↓hrc, ↓bind_of hp, if_neg bIt, ↓if_neg c0, ↓if_neg c1]
      · skip
        intro M' hm
        have hm2 : mIx S M' E K im st no tp fl := hm
        obtain ⟨mS', mE, mK, mim, mst, mno, mtp, mfl, mmd⟩ := id hm2
        refine ⟨_, ?_, th0 M' 0⟩
        simp (disch := first | omega | simp only [qI2, qL2, qC2, qF2]) only [gX12_ask, ↓mH mS', ↓bind_of (mp M' hm2), if_neg bIt, ↓if_neg c0, ↓if_neg c1]
