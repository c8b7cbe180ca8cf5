/-! pure part 36: undo, keep, back -/
theorem c_tb21 {S : List (Nat × Nat)} {R : Nat → Nat → Option Nat} {I : Nat → Nat → Int32} {n : Nat} (hS : zShp S) (hR : pRf R) (hn : n < 20) (h1 : I 182 1 = nI n) : ∀ (k fu i : Nat) (M : zM), M.2.2 = R → (∀ a b, ¬ (a = 109) → M.1 a b = I a b) → i + k = 12 → k < fu →
    ∃ M', gX8_takeBack_21 S fu 182 107 (nI i) M = some (nI n, M') ∧ M'.2.2 = R ∧ (∀ a b, ¬ (a = 109 ∨ (a = 107 ∧ b = 3)) → M'.1 a b = I a b) ∧ (∀ b, ¬ (i ≤ b ∧ b < 12) → M'.1 109 b = M.1 109 b) ∧ (∀ p, i ≤ p → p < 12 → M'.1 109 p = I 184 (13 * n + p)) ∧ M'.1 107 3 = I 184 (13 * n + 12) := by
  have D := cD hS hR
  have N := cN hS hR
  have U := cU hS hR
  intro k
  induction k with
  | zero =>
    intro fu i M hMR hI hk hf
    obtain ⟨fu, rfl⟩ : ∃ f, fu = f + 1 := ⟨fu - 1, by omega⟩
    have hi : i = 12 := by omega
    subst hi
    have g1 : M.1 182 1 = nI n := by rw [hI _ _ (by decide)]; exact h1
    have g3 : M.1 184 (n * 13 + 12) = I 184 (13 * n + 12) := by rw [Nat.mul_comm n 13]; exact hI _ _ (by decide)
    refine ⟨zsI M 107 3 (I 184 (13 * n + 12)), ?_, hMR, fun a b h => by rw [zsI_ne (by omega)]; exact hI a b (by omega), fun b h => zsI_ne (by omega), fun p h1 h2 => by omega, zsI_at _ _ _ _⟩
    have hb : 12 ≤ 12 := Nat.le_refl _
    simp (disch := first | omega | simp only [qI2, hMR]) only [gX8_takeBack_21, li12, li13', nI_leI, ↓if_pos hb, ↓D, ↓N, g1, pk_mul, nI_add]
    simp (disch := first | omega | simp only [qI2, hMR]) only [↓U, ↓D, ↓N, zsI_ne, g1, g3]
  | succ k ih =>
    intro fu i M hMR hI hk hf
    obtain ⟨fu, rfl⟩ : ∃ f, fu = f + 1 := ⟨fu - 1, by omega⟩
    have g1 : M.1 182 1 = nI n := by rw [hI _ _ (by decide)]; exact h1
    have g2 : M.1 184 (n * 13 + i) = I 184 (13 * n + i) := by rw [Nat.mul_comm n 13]; exact hI _ _ (by decide)
    obtain ⟨M', e1, e2, e3, e4, e5, e6⟩ := ih fu (i + 1) (zsI M 109 i (I 184 (13 * n + i))) hMR (fun a b h => by rw [zsI_ne (by omega)]; exact hI a b h) (by omega) (by omega)
    refine ⟨M', ?_, e2, e3, fun b h => by rw [e4 b (by omega), zsI_ne (by omega)], fun p h3 h4 => ?_, e6⟩
    · have hb : ¬ 12 ≤ i := by omega
      simp (disch := first | omega | simp only [qI2, hMR]) only [gX8_takeBack_21, li12, li13', nI_leI, if_neg hb, ↓D, ↓N, g1, pk_mul, nI_add]
      simp (disch := first | omega | simp only [qI2, hMR]) only [↓U, ↓D, ↓N, g2, nI_1]
      exact e1
    · by_cases hp : p = i
      · subst hp
        rw [e4 _ (by omega), zsI_at]
      · exact e5 p (by omega) h4
theorem zu_sameN {S : List (Nat × Nat)} {M : zM} {A : zAb} {f g : zM → Option (Int32 × zM)} (hw : aW A) (hc : cI S M A) (v : Int32) (h1 : f M = some (v, M)) (h2 : ∀ M' : zM, mI S M' A → g M' = some (v, zsI M' 306 0 0)) : ∃ (v : Int32) (A' : zAb) (M1 : zM), f M = some (v, M1) ∧ aW A' ∧ cI S M1 A' ∧ cX M M1 ∧ ∀ M' : zM, mI S M' A → ∃ M2 : zM, g M' = some (v, M2) ∧ mI S M2 A' ∧ mX M' M2 := zu_same hw hc v h1 h2
theorem P_undo : zP_undo zInv := by
  intro S M hM
  refine zu (f := gX11_undo S 0) (g := gX12_undo S 306) ?_ M hM
  intro A M hw hc
  obtain ⟨t, E, K, le, im, st, no, tp, fl⟩ := A
  have hc2 : cIx S M t E K le im st no tp fl := hc
  have hw2 : aWx E K im st no tp fl := hw
  obtain ⟨⟨hS, hR, ht, h03, h04⟩, hV, hK, him, hst, hno, htp, hfl⟩ := hc2
  obtain ⟨wE, wK, wim, wst, wno, wtp, wfl⟩ := hw2
  have hT6 := wE.1
  have hP12 := wE.2.1
  have hW5 := wE.2.2.2.1
  have T0 := pTs_of hS hR t (Or.inr ht)
  have N0 := pSs_of hS hR 107 (by decide)
  have gT : ∀ (ρ : Type) (M' : zM) (f : Nat → Option ρ), M'.2.2 = M.2.2 → zgR S M' 0 11 14 3 f = f t := fun ρ M' f h => zgR_of ((hS 0 (by decide)).trans rfl) h03 M' f h
  have D := cD hS hR
  have c1 := hst.1
  by_cases h0 : st.1 = 0
  · have z : nI st.1 = 0 := by rw [h0]; rfl
    refine zu_same hw hc (-1) ?_ (fun M' hm => ?_)
    · have tb : gX8_takeBack S 182 107 M = some (-1, M) := by
        simp (disch := first | omega | simp only [qI2, qL2, qC2, qF2]) only [gX8_takeBack, ↓D, c1, ↓if_pos z]
      simp (disch := first | omega | simp only [qI2, qL2, qC2, qF2]) only [gX11_undo, ↓D, ↓zb2_of tb]
    · have mS' := hm.1
      have m1 : M'.1 306 46 = nI st.1 := hm.2.2.2.2.1.1
      simp (disch := first | omega | simp only [qI2, qL2, qC2, qF2]) only [gX12_undo, ↓mH mS', zsI_ne, m1, ↓if_pos z]
  · obtain ⟨n, hn⟩ : ∃ n, st.1 = n + 1 := ⟨st.1 - 1, by omega⟩
    have h20 := wst.1
    have z : ¬ nI (n + 1) = 0 := nI_ne0 (by omega) (by omega)
    rw [hn] at c1
    obtain ⟨M', e1, e2, e3, e4, e5, e6⟩ := c_tb21 (I := (zsI M 182 1 (nI n)).1) (n := n) hS hR (by omega) (zsI_at _ _ _ _) 12 zfu 0 (zsI M 182 1 (nI n)) rfl (fun _ _ _ => rfl) (by omega) (by unfold zfu; omega)
    have e1' : gX8_takeBack_21 S zfu 182 107 0 (zsI M 182 1 (nI n)) = some (nI n, M') := e1
    have off : ∀ a b, ¬ (a = 109 ∨ (a = 107 ∧ b = 3) ∨ (a = 182 ∧ b = 1)) → M'.1 a b = M.1 a b := fun a b q => by rw [e3 a b (by omega), zsI_ne (by omega)]
    have sn := hst.2 n (by omega)
    refine ⟨nI n, (t, E, setLA K (st.2.1 n) (st.2.2 n), le, im, (n, st.2), no, tp, fl), M', ?_, ⟨wE, ⟨fun i hi => (wst.2 n (by omega)).1 i hi, wK.2.1, wK.2.2.1, fun a ha => (wst.2 n (by omega)).2 a ha, wK.2.2.2.2⟩, wim, ⟨(show n ≤ 20 by omega), fun j hj => wst.2 j (by have hj2 : j < n := hj; omega)⟩, wno, wtp, wfl⟩, cIx_mk hc (fun a b k1 k2 k3 k4 => off a b (by omega)) (e2 ▸ hR : pRf M'.2.2) (by rw [e2]; exact h03) (by rw [e2]; exact h04) ?_ ⟨?_, fun j hj => ?_⟩, fun a b k => off a b (by omega), ?_⟩
    · have tb : gX8_takeBack S 182 107 M = some (nI n, M') := by
        have hx : nI (n + 1) - 1 = nI n := nI_pred n
        simp (disch := first | omega | simp only [qI2, qL2, qC2, qF2]) only [gX8_takeBack, ↓D, c1, ↓if_neg z, hx]
        exact e1'
      simp (disch := first | omega | simp only [qI2, qL2, qC2, qF2]) only [gX11_undo, ↓D, ↓zb2_of tb]
    · obtain ⟨⟨v0, v1, v2, v3, v4, v5, v6, v7, v8, v9, v10⟩, vl, vk, vw⟩ := hK
      refine ⟨⟨(off 107 0 (by omega)).trans v0, (off 107 1 (by omega)).trans v1, (off 107 2 (by omega)).trans v2, ?_, (off 107 4 (by omega)).trans v4, (off 107 5 (by omega)).trans v5, (off 107 6 (by omega)).trans v6, (off 107 7 (by omega)).trans v7, (off 107 8 (by omega)).trans v8, (off 107 9 (by omega)).trans v9, (off 107 10 (by omega)).trans v10⟩, fun i hi => ?_, fun i hi => ⟨(off _ _ (by omega)).trans (vk i hi).1, (off _ _ (by omega)).trans (vk i hi).2⟩, fun w hw => (off _ _ (by omega)).trans (vw w hw)⟩
      · rw [e6, zsI_ne (by omega)]
        exact sn.2
      · show M'.1 109 i = nI (st.2.1 n i)
        have hi2 : i < eP E := hi
        rw [e5 i (Nat.zero_le _) (by omega), zsI_ne (by omega)]
        exact sn.1 i hi
    · rw [e3 182 1 (by decide), zsI_at]
    · have hj2 : j < n := hj
      exact ⟨fun p hp => (off 184 _ (by omega)).trans ((hst.2 j (by omega)).1 p hp), (off 184 _ (by omega)).trans (hst.2 j (by omega)).2⟩
    · skip
      intro M' hm
      have hm2 : mIx S M' E K im st no tp fl := hm
      obtain ⟨mS', mE, mK, mim, mst, mno, mtp, mfl, mmd⟩ := id hm2
      have m1 : M'.1 306 46 = nI (n + 1) := by rw [mst.1, hn]
      have hoff : ∀ a b, ¬ (a = 306 ∧ (b = 0 ∨ b = 46)) → (zsI (zsI M' 306 0 0) 306 46 (nI n)).1 a b = M'.1 a b := fun a b q => by rw [zsI_ne (by omega), zsI_ne (by omega)]
      obtain ⟨M6, g1, g2, g3⟩ := m_copies (M := zsI (zsI M' 306 0 0) 306 46 (nI n)) (to := 0) (as := 3 + n) mS' (by decide) (by omega) (by omega) hP12 (pMk_cg hP12 (fun a b q => hoff a b (by unfold mS at q; omega)) (mst.2 n (by omega)))
      have g1' : gX12_copies S 306 (nI 0) (nI (3 + n)) (zsI (zsI M' 306 0 0) 306 46 (nI n)) = some M6 := g1
      have mS6 : pMs S M6.2.2 := g3.1 ▸ mS'
      have g46 : M6.1 306 46 = nI n := by rw [g3.2 306 46 (by unfold mS; omega), zsI_at]
      refine ⟨M6, ?_, mIx_mk hP12 hm2 (fun a b k1 k2 => by unfold mU mS at k2; rw [g3.2 a b (by unfold mS; omega), hoff a b (by omega)]) mS6 g2 ⟨g46, fun j hj => ?_⟩, ⟨g3.1, fun a b k => by rw [g3.2 a b (by unfold mS; omega), hoff a b (by omega)]⟩⟩
      · have hx : nI (n + 1) - 1 = nI n := nI_pred n
        have g1'' : gX12_copies S 306 0 (nI (3 + n)) (zsI (zsI M' 306 0 0) 306 46 (nI n)) = some M6 := g1
        simp (disch := first | omega | simp only [qI2, qL2, qC2, qF2]) only [gX12_undo, li3, ↓mH mS', zsI_ne, zsI_at, m1, ↓if_neg z, hx, nI_add]
        simp (disch := first | omega | simp only [qI2, qL2, qC2, qF2]) only [↓bind_of g1'', ↓mH mS6, g46]
      · have hj2 : j < n := hj
        exact pMk_cg hP12 (fun a b q => by rw [g3.2 a b (by unfold mS at *; omega), hoff a b (by unfold mS at q; omega)]) (mst.2 j (by omega))
theorem P_keep : zP_keep zInv := by
  intro S M hM
  refine zu (f := gX11_keep S 0) (g := gX12_keep S 306) ?_ M hM
  intro A M hw hc
  obtain ⟨t, E, K, le, im, st, no, tp, fl⟩ := A
  have hc2 : cIx S M t E K le im st no tp fl := hc
  have hw2 : aWx E K im st no tp fl := hw
  obtain ⟨⟨hS, hR, ht, h03, h04⟩, hV, hK, him, hst, hno, htp, hfl⟩ := hc2
  obtain ⟨wE, wK, wim, wst, wno, wtp, wfl⟩ := hw2
  have hT6 := wE.1
  have hP12 := wE.2.1
  have hW5 := wE.2.2.2.1
  have T0 := pTs_of hS hR t (Or.inr ht)
  have N0 := pSs_of hS hR 107 (by decide)
  have gT : ∀ (ρ : Type) (M' : zM) (f : Nat → Option ρ), M'.2.2 = M.2.2 → zgR S M' 0 11 14 3 f = f t := fun ρ M' f h => zgR_of ((hS 0 (by decide)).trans rfl) h03 M' f h
  have D := cD hS hR
  obtain ⟨M3, e1, e2, e3, e4⟩ := c_copy (M := M) (p := 125) (p' := 107) (pSs_of hS hR 125 (by decide)) N0 (by omega) hP12 hK
  have R3 : M3.2.2 = M.2.2 := by rw [e2]
  have hR3 : pRf M3.2.2 := R3 ▸ hR
  have D3 := cD hS hR3
  have N3 := cN hS hR3
  have h8 : S[125]? = some (7, 15) := (hS 125 (by decide)).trans rfl
  have hrc : ∀ (o : Option (Int32 × zM)), zrc S 125 7 15 o = o := fun o => zrc_ok h8
  have off : ∀ a b, ¬ (125 ≤ a ∧ a ≤ 133) → ¬ (a = 0 ∧ b = 8) → (zsI M3 0 8 1).1 a b = M.1 a b := fun a b q1 q2 => by rw [zsI_ne (by omega), e4 a b (by omega)]
  have day : M3.1 107 0 = nI (kDy K) := by rw [e4 107 0 (by omega)]; exact hK.1.1
  refine ⟨nI (kDy K), (t, E, K, le, some (K, le), st, no, tp, fl), zsI M3 0 8 1, ?_, ⟨wE, wK, fun q hq => (by cases hq; exact wK), wst, wno, wtp, wfl⟩, ⟨⟨hS, hR3, ht, by show M3.2.2 0 3 = _; rw [R3]; exact h03, by show M3.2.2 0 4 = _; rw [R3]; exact h04⟩, pTv_cg (fun a b k1 k2 => off a b (by omega) (by omega)) hV, pSv_cg (fun a b k1 k2 => off a b (by omega) (by omega)) hK, ⟨zsI_at _ _ _ _, fun q hq => (by cases hq; exact pSv_cg (fun a b k1 k2 => zsI_ne (by omega)) e3)⟩, ⟨(off 182 1 (by omega) (by omega)).trans hst.1, fun j hj => ⟨fun p hp => (off 184 _ (by omega) (by omega)).trans ((hst.2 j hj).1 p hp), (off 184 _ (by omega) (by omega)).trans (hst.2 j hj).2⟩⟩, ⟨(off 169 6 (by omega) (by omega)).trans hno.1, (off 169 7 (by omega) (by omega)).trans hno.2.1, fun j hj => ⟨(off 171 j (by omega) (by omega)).trans (hno.2.2 j hj).1, (off 173 j (by omega) (by omega)).trans (hno.2.2 j hj).2.1, (off 175 j (by omega) (by omega)).trans (hno.2.2 j hj).2.2⟩⟩, ⟨(off 0 1 (by omega) (by omega)).trans htp.1, fun j hj => (off 2 j (by omega) (by omega)).trans (htp.2 j hj)⟩, ⟨(off 3 2 (by omega) (by omega)).trans hfl.1, (off 3 3 (by omega) (by omega)).trans hfl.2.1, fun j hj => (off 6 j (by omega) (by omega)).trans (hfl.2.2 j hj)⟩⟩, fun a b k => off a b (by omega) (by omega), ?_⟩
  · simp (disch := first | omega | simp only [qI2, qL2, qC2, qF2]) only [gX11_keep, ↓D, ↓hrc, ↓bind_of e1, ↓D3, ↓N3, zsI_ne, day]
  · skip
    intro M' hm
    have hm2 : mIx S M' E K im st no tp fl := hm
    obtain ⟨mS', mE, mK, mim, mst, mno, mtp, mfl, mmd⟩ := id hm2
    obtain ⟨M2, g1, g2, g3⟩ := m_copies (M := zsI M' 306 0 0) (to := 2) (as := 0) mS' (by decide) (by decide) (by decide) hP12 (pMk_cg hP12 (fun a b q => zsI_ne (by unfold mS at q; omega)) mK)
    have g1' : gX12_copies S 306 2 0 (zsI M' 306 0 0) = some M2 := g1
    have mS2 : pMs S M2.2.2 := g3.1 ▸ mS'
    have moff : ∀ a b, ¬ mS 2 a b → ¬ (a = 306 ∧ (b = 0 ∨ b = 45)) → (zsI M2 306 45 1).1 a b = M'.1 a b := fun a b q1 q2 => by rw [zsI_ne (by omega), g3.2 a b q1, zsI_ne (by omega)]
    have mday : M2.1 324 0 = nI (kDy K) := by rw [g3.2 324 0 (by unfold mS; omega), zsI_ne (by omega)]; exact mK.1.1
    refine ⟨zsI M2 306 45 1, ?_, ⟨mS2, pME_cg (fun a b k1 k2 => moff a b (by unfold mS; omega) (by omega)) mE, pMk_cg hP12 (fun a b q => moff a b (by unfold mS at *; omega) (by unfold mS at q; omega)) mK, ⟨zsI_at _ _ _ _, fun q hq => (by cases hq; exact pMk_cg hP12 (fun a b q => zsI_ne (by unfold mS at q; omega)) g2)⟩, ⟨(moff 306 46 (by unfold mS; omega) (by omega)).trans mst.1, fun j hj => pMk_cg hP12 (fun a b q => moff a b (by unfold mS at *; omega) (by unfold mS at q; omega)) (mst.2 j hj)⟩, ⟨(moff 306 58 (by unfold mS; omega) (by omega)).trans mno.1, (moff 306 59 (by unfold mS; omega) (by omega)).trans mno.2.1, fun j hj => ⟨(moff 345 j (by unfold mS; omega) (by omega)).trans (mno.2.2 j hj).1, fun h => ⟨(moff 342 j (by unfold mS; omega) (by omega)).trans ((mno.2.2 j hj).2 h).1, (moff 343 j (by unfold mS; omega) (by omega)).trans ((mno.2.2 j hj).2 h).2.1, (moff 344 j (by unfold mS; omega) (by omega)).trans ((mno.2.2 j hj).2 h).2.2⟩⟩⟩, ⟨(moff 306 2 (by unfold mS; omega) (by omega)).trans mtp.1, fun j hj => (moff 307 j (by unfold mS; omega) (by omega)).trans (mtp.2 j hj)⟩, ⟨(moff 306 26 (by unfold mS; omega) (by omega)).trans mfl.1, (moff 306 27 (by unfold mS; omega) (by omega)).trans mfl.2⟩, ⟨(moff 306 47 (by unfold mS; omega) (by omega)).trans mmd.1, (moff 306 48 (by unfold mS; omega) (by omega)).trans mmd.2.1, (moff 306 49 (by unfold mS; omega) (by omega)).trans mmd.2.2⟩⟩, ⟨g3.1, fun a b k => moff a b (by unfold mS; omega) (by omega)⟩⟩
    simp (disch := first | omega | simp only [qI2, qL2, qC2, qF2]) only [gX12_keep, ↓mH mS', ↓bind_of g1', ↓mH mS2, ↓mL mS2, zsI_ne, mday]
theorem P_back : zP_back zInv := by
  intro S M hM
  refine zu (f := gX11_back S 0) (g := gX12_back S 306) ?_ M hM
  intro A M hw hc
  obtain ⟨t, E, K, le, im, st, no, tp, fl⟩ := A
  have hc2 : cIx S M t E K le im st no tp fl := hc
  have hw2 : aWx E K im st no tp fl := hw
  obtain ⟨⟨hS, hR, ht, h03, h04⟩, hV, hK, him, hst, hno, htp, hfl⟩ := hc2
  obtain ⟨wE, wK, wim, wst, wno, wtp, wfl⟩ := hw2
  have hT6 := wE.1
  have hP12 := wE.2.1
  have hW5 := wE.2.2.2.1
  have T0 := pTs_of hS hR t (Or.inr ht)
  have N0 := pSs_of hS hR 107 (by decide)
  have gT : ∀ (ρ : Type) (M' : zM) (f : Nat → Option ρ), M'.2.2 = M.2.2 → zgR S M' 0 11 14 3 f = f t := fun ρ M' f h => zgR_of ((hS 0 (by decide)).trans rfl) h03 M' f h
  have D := cD hS hR
  have c8 := him.1
  cases hi : im with
  | none =>
    subst hi
    refine zu_same hw hc (-1) ?_ (fun M' hm => ?_)
    · simp (disch := first | omega | simp only [qI2, qL2, qC2, qF2]) only [gX11_back, ↓D, c8]
      exact if_pos rfl
    · have mS' := hm.1
      have m8 : M'.1 306 45 = isI (none : Option (zKa × Int32)) := hm.2.2.2.1.1
      simp (disch := first | omega | simp only [qI2, qL2, qC2, qF2]) only [gX12_back, ↓mH mS', zsI_ne, m8]
      exact if_pos rfl
  | some q =>
    subst hi
    have z : ¬ isI (some q) = 0 := by show ¬ (1 : Int32) = 0; decide
    have hKi := him.2 q rfl
    obtain ⟨M4, e1, e2, e3, e4⟩ := c_copy (M := M) (p := 107) (p' := 125) N0 (pSs_of hS hR 125 (by decide)) (by omega) hP12 hKi
    have R4 : M4.2.2 = M.2.2 := by rw [e2]
    have hR4 : pRf M4.2.2 := R4 ▸ hR
    have D4 := cD hS hR4
    have N4 := cN hS hR4
    have N := cN hS hR
    have off : ∀ a b, ¬ (107 ≤ a ∧ a ≤ 115) → ¬ (a = 182 ∧ b = 1) → (zsI M4 182 1 0).1 a b = M.1 a b := fun a b q1 q2 => by rw [zsI_ne (by omega), e4 a b (by omega)]
    have day : M4.1 107 0 = nI (kDy q.1) := e3.1.1
    refine ⟨nI (kDy q.1), (t, E, q.1, q.2, some q, (0, st.2), no, tp, fl), zsI M4 182 1 0, ?_, ⟨wE, wim q rfl, wim, ⟨Nat.zero_le _, fun j hj => absurd hj (Nat.not_lt_zero j)⟩, wno, wtp, wfl⟩, cIx_mk hc (fun a b k1 k2 k3 k4 => off a b k2 (by omega)) hR4 (by show M4.2.2 0 3 = _; rw [R4]; exact h03) (by show M4.2.2 0 4 = _; rw [R4]; exact h04) (pSv_cg (fun a b k1 k2 => zsI_ne (by omega)) e3) ⟨zsI_at _ _ _ _, fun j hj => absurd hj (Nat.not_lt_zero j)⟩, fun a b k => off a b (by omega) (by omega), ?_⟩
    · simp (disch := first | omega | simp only [qI2, qL2, qC2, qF2]) only [gX11_back, ↓D, c8, ↓if_neg z, ↓N, ↓bind_of e1, ↓D4, gX8_clear, Option.bind_some, ↓N4, zsI_ne, day]
    · skip
      intro M' hm
      have hm2 : mIx S M' E K (some q) st no tp fl := hm
      obtain ⟨mS', mE, mK, mim, mst, mno, mtp, mfl, mmd⟩ := id hm2
      have m8 := mim.1
      obtain ⟨M3, g1, g2, g3⟩ := m_copies (M := zsI M' 306 0 0) (to := 0) (as := 2) mS' (by decide) (by decide) (by decide) hP12 (pMk_cg hP12 (fun a b q => zsI_ne (by unfold mS at q; omega)) (mim.2 q rfl))
      have g1' : gX12_copies S 306 0 2 (zsI M' 306 0 0) = some M3 := g1
      have mS3 : pMs S M3.2.2 := g3.1 ▸ mS'
      have moff : ∀ a b, ¬ mS 0 a b → ¬ (a = 306 ∧ (b = 0 ∨ b = 46)) → (zsI M3 306 46 0).1 a b = M'.1 a b := fun a b q1 q2 => by rw [zsI_ne (by omega), g3.2 a b q1, zsI_ne (by omega)]
      have mday : M3.1 324 0 = nI (kDy q.1) := g2.1.1
      refine ⟨zsI M3 306 46 0, ?_, mIx_mk hP12 hm2 (fun a b k1 k2 => by unfold mU mS at k2; exact moff a b (by unfold mS; omega) (by omega)) mS3 (pMk_cg hP12 (fun a b q => zsI_ne (by unfold mS at q; omega)) g2) ⟨zsI_at _ _ _ _, fun j hj => absurd hj (Nat.not_lt_zero j)⟩, ⟨g3.1, fun a b k => moff a b (by unfold mS; omega) (by omega)⟩⟩
      simp (disch := first | omega | simp only [qI2, qL2, qC2, qF2]) only [gX12_back, ↓mH mS', zsI_ne, m8, ↓if_neg z, ↓bind_of g1', ↓mH mS3, ↓mL mS3, mday]
