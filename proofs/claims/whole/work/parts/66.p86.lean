/-! pure part 86: P_text -/
theorem pME_lo {I I' : Nat → Nat → Int32} {E : zEn} (wE : wfE E) (h : ∀ a b, 308 ≤ a → a ≤ 321 → ¬ mPq a b → I' a b = I a b) (hV : pME I E) : pME I' E := by
  have hT6 := wE.1
  have hP12 := wE.2.1
  have hW5 := wE.2.2.2.1
  obtain ⟨⟨a1, a2, a3, a4, a5, a6, a7⟩, b, c, d, e, f⟩ := hV
  refine ⟨⟨(h _ _ (by omega) (by omega) (by unfold mPq; omega)).trans a1, (h _ _ (by omega) (by omega) (by unfold mPq; omega)).trans a2, (h _ _ (by omega) (by omega) (by unfold mPq; omega)).trans a3, (h _ _ (by omega) (by omega) (by unfold mPq; omega)).trans a4, (h _ _ (by omega) (by omega) (by unfold mPq; omega)).trans a5, (h _ _ (by omega) (by omega) (by unfold mPq; omega)).trans a6, (h _ _ (by omega) (by omega) (by unfold mPq; omega)).trans a7⟩, fun i hi => ⟨(h _ _ (by omega) (by omega) (by unfold mPq; omega)).trans (b i hi).1, (h _ _ (by omega) (by omega) (by unfold mPq; omega)).trans (b i hi).2.1, (h _ _ (by omega) (by omega) (by unfold mPq; omega)).trans (b i hi).2.2⟩, fun i hi => (h _ _ (by omega) (by omega) (by unfold mPq; omega)).trans (c i hi), fun i hi => (h _ _ (by omega) (by omega) (by unfold mPq; omega)).trans (d i hi), fun i hi => ⟨(h _ _ (by omega) (by omega) (by unfold mPq; omega)).trans (e i hi).1, (h _ _ (by omega) (by omega) (by unfold mPq; omega)).trans (e i hi).2.1, (h _ _ (by omega) (by omega) (by unfold mPq; omega)).trans (e i hi).2.2.1, (h _ _ (by omega) (by omega) (by unfold mPq; omega)).trans (e i hi).2.2.2⟩, fun r hr => ?_⟩
  obtain ⟨b0, k1, k2, k3, k4⟩ := f r hr
  exact ⟨b0, k1, (h _ _ (by omega) (by omega) (by unfold mPq; omega)).trans k2, (h _ _ (by omega) (by omega) (by unfold mPq; omega)).trans k3, lsM_cg (fun j z1 z2 => ⟨(h _ _ (by omega) (by omega) (by unfold mPq; omega)), (h _ _ (by omega) (by omega) (by unfold mPq; omega))⟩) k4⟩
theorem mIx_tx {S : List (Nat × Nat)} {M M' : zM} {E : zEn} {K : zKa} {im : Option (zKa × Int32)} {st : zStp} {no : zNot} {tp : Nat × (Nat → Int32)} {fl fl' : Nat × Int32} (wE : wfE E) (hI : mIx S M E K im st no tp fl) (h : ∀ a b, 306 ≤ a → ¬ mPq a b → ¬ (a = 306 ∧ (b = 0 ∨ b = 2 ∨ b = 19 ∨ b = 26 ∨ b = 27)) → M'.1 a b = M.1 a b) (h1 : M'.2.2 = M.2.2) (h2 : M'.1 306 2 = 0) (hf : mFl M'.1 fl') : mIx S M' E K im st no (0, tp.2) fl' := by
  obtain ⟨a1, b, c, d, e, f, g, i, k⟩ := hI
  have hP := wE.2.1
  have km : ∀ s a b', mS s a b' → M'.1 a b' = M.1 a b' := fun s a b' q => by
    unfold mS at q
    exact h a b' (by omega) (by unfold mPq; omega) (by omega)
  have h6 : ∀ y, y = 45 ∨ y = 46 ∨ y = 47 ∨ y = 48 ∨ y = 49 ∨ y = 58 ∨ y = 59 → M'.1 306 y = M.1 306 y := fun y q => h 306 y (by omega) (by unfold mPq; omega) (by omega)
  have h3 : ∀ x y, 336 ≤ x → M'.1 x y = M.1 x y := fun x y q => h x y (by omega) (by unfold mPq; omega) (by omega)
  exact ⟨h1.symm ▸ a1, pME_lo wE (fun a b k1 k2 k3 => h a b (by omega) k3 (by omega)) b, pMk_cg hP (fun a b q => km 0 a b q) c, ⟨(h6 45 (by omega)).trans d.1, fun q hq => pMk_cg hP (fun a b q => km 2 a b q) (d.2 q hq)⟩, ⟨(h6 46 (by omega)).trans e.1, fun j hj => pMk_cg hP (fun a b q => km (3 + j) a b q) (e.2 j hj)⟩, ⟨(h6 58 (by omega)).trans f.1, (h6 59 (by omega)).trans f.2.1, fun j hj => ⟨(h3 345 j (by omega)).trans (f.2.2 j hj).1, fun q => ⟨(h3 342 j (by omega)).trans ((f.2.2 j hj).2 q).1, (h3 343 j (by omega)).trans ((f.2.2 j hj).2 q).2.1, (h3 344 j (by omega)).trans ((f.2.2 j hj).2 q).2.2⟩⟩⟩, ⟨h2, fun j hj => absurd hj (Nat.not_lt_zero _)⟩, hf, ⟨(h6 47 (by omega)).trans k.1, (h6 48 (by omega)).trans k.2.1, (h6 49 (by omega)).trans k.2.2⟩⟩
theorem P_text : zP_text zInv := by
  intro S M hM a1
  obtain ⟨A, hw, hc, hm⟩ := hM
  obtain ⟨t, E, K, le, im, st, no, tp, fl⟩ := A
  have hc2 : cIx S M t E K le im st no tp fl := hc
  have hm2 : mIx S M E K im st no tp fl := hm
  have hw2 : aWx E K im st no tp fl := hw
  obtain ⟨⟨hS, hR, ht, h03, h04⟩, hV, hK, him, hst, hno, htp, hfl⟩ := id hc2
  obtain ⟨wE, wK, wim, wst, wno, wtp, wfl⟩ := id hw2
  obtain ⟨mS', mE, mK, mim, mst, mno, mtp, mfl, mmd⟩ := id hm2
  have D := cD hS hR
  have t7 := wtp.1
  have neg : (a1 < 0 ∨ ¬ a1 ≤ nI tp.1) → ∃ (v : Int32) (M1 M2 : zM), gX11_text S 0 a1 M = some (v, M1) ∧ gX12_text S 306 a1 M1 = some (v, M2) ∧ zInv S M2 := fun q => by
    refine ⟨-2, M, zsI M 306 0 0, ?_, ?_, ⟨(t, E, K, le, im, st, no, tp, fl), hw, cI_cg (M := M) (fun a b k _ => zsI_ne (by omega)) hR rfl rfl hc, mFr_I hw (th0 M 0) hm⟩⟩
    · by_cases c : a1 < 0
      · simp (disch := first | omega | simp only [qI2, qL2, qC2, qF2]) only [gX11_text, if_pos c]
      · simp (disch := first | omega | simp only [qI2, qL2, qC2, qF2]) only [gX11_text, if_neg c, ↓D, htp.1, if_neg (q.resolve_left c)]
    · by_cases c : a1 < 0
      · simp (disch := first | omega | simp only [qI2, qL2, qC2, qF2]) only [gX12_text, ↓mH mS', if_pos c]
      · have h2' : (zsI M 306 0 0).1 306 2 = nI tp.1 := (zsI_ne (by omega)).trans mtp.1
        simp (disch := first | omega | simp only [qI2, qL2, qC2, qF2]) only [gX12_text, ↓mH mS', if_neg c, h2', if_neg (q.resolve_left c)]
  by_cases c1 : a1 < 0
  · exact neg (Or.inl c1)
  by_cases c2 : a1 ≤ nI tp.1
  rotate_left
  · exact neg (Or.inr c2)
  clear neg
  obtain ⟨n, hn, rfl⟩ : ∃ n, n < tp.1 + 1 ∧ a1 = nI n := by
    rcases pk_ix a1 (show tp.1 + 1 < 2 ^ 31 by omega) with h | h | h
    · exact absurd h c1
    · exact absurd (Int32.le_trans h c2) (nI_ge (Nat.lt_succ_self _) (by omega))
    · exact h
  obtain ⟨T, hT⟩ : ∃ T : Nat → Nat, ∀ j, j < tp.1 → tp.2 j = nI (T j) ∧ T j < 256 := by
    have hh : ∀ j, ∃ b, j < tp.1 → tp.2 j = nI b ∧ b < 256 := fun j => by
      by_cases h : j < tp.1
      · obtain ⟨b, h1, h2⟩ := wtp.2 j h
        exact ⟨b, fun _ => ⟨h2, h1⟩⟩
      · exact ⟨0, fun q => absurd q h⟩
    exact ⟨fun j => Classical.choose (hh j), fun j => Classical.choose_spec (hh j)⟩
  have hn7 : n ≤ 700 := by omega
  obtain ⟨r, hr⟩ := readS_some (T := T) hn7 (n + 1) (tokS T n 0) E00 false false 0 (tokS_ok (Nat.zero_le _) hn7) wf_00 (by omega)
  have ht' : 118 - t = 43 ∨ 118 - t = 75 := by omega
  obtain ⟨v, M7, b1, b2, b3, b4, b5⟩ := c_rds (M := zsI M 0 1 0) (t := 118 - t) hS hR ht' hn7 (fun j hj => ⟨(zsI_ne (by omega)).trans ((htp.2 j (by omega)).trans (hT j (by omega)).1), (hT j (by omega)).2⟩) (fun j hj => (zsI_ne (by omega)).trans (hfl.2.2 j hj)) hr
  have b2' : M7.2.2 = u2 (u2 M.2.2 3 1 (some (118 - t))) 4 1 (some 1) := b2
  have hR7 : pRf M7.2.2 := by
    rw [b2']
    exact pRf_u2 (pRf_u2 hR (by decide +kernel)) (by decide +kernel)
  have h037 : M7.2.2 0 3 = some t := by
    rw [b2', u2_o (by omega), u2_o (by omega)]
    exact h03
  have h047 : M7.2.2 0 4 = some (118 - t) := by
    rw [b2', u2_o (by omega), u2_o (by omega)]
    exact h04
  have f7 : ∀ x y, ¬ cPq (118 - t) x y → ¬ (x = 4 ∧ y = 2) → ¬ (x = 0 ∧ y = 1) → M7.1 x y = M.1 x y := fun x y q1 q2 q3 => (b3 x y q1 q2).trans (zsI_ne (by omega))
  have h01 : M7.1 0 1 = 0 := (b3 0 1 (by unfold cPq; omega) (by omega)).trans (zsI_at _ _ _ _)
  have g4 : ∀ (ρ : Type) (f : Nat → Option ρ), zgR S (zsI M 0 1 0) 0 11 14 4 f = f (118 - t) := fun ρ f => zgR_ok ((hS 0 (by decide)).trans rfl) h04
  have r3 : ∀ (ρ : Type) (o : Option ρ), zrc S 3 3 10 o = o := fun ρ o => zrc_ok ((hS 3 (by decide)).trans rfl)
  cases r with
  | inl q =>
    obtain ⟨f, p⟩ := q
    obtain ⟨v0, g2, g3⟩ := b4 f p rfl
    subst v0
    have e1 : gX11_text S 0 (nI n) M = some (-1, M7) := by
      simp (disch := first | omega | simp only [qI2, qL2, qC2, qF2]) only [gX11_text, if_neg (nI_pos (n := n) (by omega)), ↓D, htp.1, nI_leI, if_pos (show n ≤ tp.1 by omega), ↓g4, ↓r3, ↓zb2_of b1, if_true]
    have hm1 : mIx S M7 E K im st no tp fl := mI_cg (A := (t, E, K, le, im, st, no, tp, fl)) hw (fun a b k _ => f7 a b (by unfold cPq; omega) (by omega) (by omega)) (pMs_of hS hR7) hm
    have htp1 : mTp M7.1 tp := hm1.2.2.2.2.2.2.1
    obtain ⟨M8, d1, d2, d3, d4, d5, d6⟩ := m_textT (M := M7) hm1.1 htp1.1 (show n ≤ tp.1 by omega) t7 (fun j hj => ⟨(htp1.2 j (by omega)).trans (hT j (by omega)).1, (hT j (by omega)).2⟩) hr
    obtain ⟨k1, k2, k3⟩ := d5 f p rfl
    have nd : ¬ M8.1 306 24 = 0 := by
      rw [k2]
      rcases (show f = 1 ∨ f = 2 ∨ f = 3 ∨ f = 4 by omega) with rfl | rfl | rfl | rfl <;> decide
    have e2 : gX12_text S 306 (nI n) M7 = some (-1, m162 M8) := d1.trans (m_162f (d2.symm ▸ hm1.1) nd)
    have r2 : (m162 M8).2.2 = M7.2.2 := d2
    have o2 : ∀ a b, ¬ mPq a b → ¬ (a = 306 ∧ (b = 0 ∨ b = 2 ∨ b = 19 ∨ b = 26 ∨ b = 27)) → (m162 M8).1 a b = M7.1 a b := fun a b q1 q2 => (m162_o (by omega)).trans (d3 a b q1 (by omega))
    have cc : cIx S M7 t E K le im st no (0, tp.2) (f, nI p) := by
      have u : ∀ x y, ¬ (x = 3 ∨ x = 4 ∨ x = 42) → ¬ (118 - t ≤ x ∧ x ≤ 118 - t + 31) → ¬ (x = 0 ∧ y = 1) → M7.1 x y = M.1 x y := fun x y q1 q2 q3 => f7 x y (by unfold cPq; omega) (by omega) q3
      exact ⟨⟨hS, hR7, ht, h037, h047⟩, pTv_cg (fun a b z1 z2 => u a b (by omega) (by omega) (by omega)) hV, pSv_cg (fun a b z1 z2 => u a b (by omega) (by omega) (by omega)) hK, ⟨(u 0 8 (by omega) (by omega) (by omega)).trans him.1, fun q hq => pSv_cg (fun a b z1 z2 => u a b (by omega) (by omega) (by omega)) (him.2 q hq)⟩, ⟨(u 182 1 (by omega) (by omega) (by omega)).trans hst.1, fun j hj => ⟨fun p hp => (u 184 _ (by omega) (by omega) (by omega)).trans ((hst.2 j hj).1 p hp), (u 184 _ (by omega) (by omega) (by omega)).trans (hst.2 j hj).2⟩⟩, ⟨(u 169 6 (by omega) (by omega) (by omega)).trans hno.1, (u 169 7 (by omega) (by omega) (by omega)).trans hno.2.1, fun j hj => ⟨(u 171 j (by omega) (by omega) (by omega)).trans (hno.2.2 j hj).1, (u 173 j (by omega) (by omega) (by omega)).trans (hno.2.2 j hj).2.1, (u 175 j (by omega) (by omega) (by omega)).trans (hno.2.2 j hj).2.2⟩⟩, ⟨h01, fun j hj => absurd hj (Nat.not_lt_zero _)⟩, ⟨g2, g3, fun j hj => (u 6 j (by omega) (by omega) (by omega)).trans (hfl.2.2 j hj)⟩⟩
    have mf : mFl (m162 M8).1 (f, nI p) := by
      refine ⟨?_, ?_⟩
      · unfold m162
        rw [zsI_ne (by omega), zsI_at]
        exact k2
      · show _ = if f = 0 then (-1 : Int32) else nI p
        rw [if_neg (by omega)]
        unfold m162
        rw [zsI_at, zsI_ne (by omega)]
        exact k3
    have mm : mIx S (m162 M8) E K im st no (0, tp.2) (f, nI p) := mIx_tx wE hm1 (fun a b _ q1 q2 => o2 a b q1 q2) r2 ((m162_o (by omega)).trans d4) mf
    have cI' : cI S M7 (t, E, K, le, im, st, no, (0, tp.2), (f, nI p)) := cc
    exact ⟨-1, M7, m162 M8, e1, e2, ⟨(t, E, K, le, im, st, no, (0, tp.2), (f, nI p)), ⟨wE, wK, wim, wst, wno, ⟨Nat.zero_le _, fun j hj => absurd hj (Nat.not_lt_zero _)⟩, k1.2⟩, cI_cg (fun a b k _ => o2 a b (by unfold mPq; omega) (by omega)) (r2.symm ▸ hR7) (by rw [r2]) (by rw [r2]) cI', mm⟩⟩
  | inr q =>
    obtain ⟨E', ln'⟩ := q
    obtain ⟨v1, wE', dr, l0, h32⟩ := b5 E' ln' rfl
    subst v1
    have hV' : pTv M7.1 (118 - t) E' := cDr_T dr wE'
    have hR10 : pRf (u2 M7.2.2 0 3 (some (118 - t))) := pRf_u2 hR7 (by decide +kernel)
    have hR11 : pRf (zsR (zsR M7 0 3 (some (118 - t))) 0 4 (some t)).2.2 := pRf_u2 hR10 (by decide +kernel)
    obtain ⟨M14, s1, s2, s3, s4⟩ := c_starts (M := zsR (zsR M7 0 3 (some (118 - t))) 0 4 (some t)) (p := 107) (t := 118 - t) (E := E') (pSs_of hS hR11 107 (by decide)) (pTs_of hS hR11 (118 - t) (Or.inr ht')) (by omega) wE' hV'
    have s4' : ∀ a b, ¬ (107 ≤ a ∧ a ≤ 115) → M14.1 a b = M7.1 a b := fun a b q => s4 a b (by omega)
    have s2' : M14.2.2 = u2 (u2 M7.2.2 0 3 (some (118 - t))) 0 4 (some t) := congrArg Prod.snd s2
    have hR14 : pRf M14.2.2 := by rw [s2']; exact hR11
    have h314 : M14.2.2 0 3 = some (118 - t) := by rw [s2', u2_o (by omega)]; exact u2_at
    have h414 : M14.2.2 0 4 = some t := by rw [s2']; exact u2_at
    have l19 : (zsI (zsI (zsI (zsI M14 169 6 0) 169 7 (-1)) 182 1 0) 0 8 0).1 (118 - t) 0 = nI ln' := by
      rw [zsI_ne (by omega), zsI_ne (by omega), zsI_ne (by omega), zsI_ne (by omega), s4' _ _ (by omega)]
      exact l0
    have e1 : gX11_text S 0 (nI n) M = some (nI ln', zsI (zsI (zsI (zsI M14 169 6 0) 169 7 (-1)) 182 1 0) 0 8 0) := by
      have g37 : ∀ (ρ : Type) (f : Nat → Option ρ), zgR S M7 0 11 14 3 f = f t := fun ρ f => zgR_ok ((hS 0 (by decide)).trans rfl) h037
      have g47 : ∀ (ρ : Type) (f : Nat → Option ρ), zgR S M7 0 11 14 4 f = f (118 - t) := fun ρ f => zgR_ok ((hS 0 (by decide)).trans rfl) h047
      have g5 : ∀ (ρ : Type) (f : Nat → Option ρ), zgR S (zsR (zsR M7 0 3 (some (118 - t))) 0 4 (some t)) 0 11 14 5 f = f 107 := fun ρ f => zgR_ok ((hS 0 (by decide)).trans rfl) (pRg hR11 0 5 107 (by decide))
      have g3 : ∀ (ρ : Type) (f : Nat → Option ρ), zgR S (zsR (zsR M7 0 3 (some (118 - t))) 0 4 (some t)) 0 11 14 3 f = f (118 - t) := fun ρ f => zgR_ok ((hS 0 (by decide)).trans rfl) (show u2 (u2 M7.2.2 0 3 (some (118 - t))) 0 4 (some t) 0 3 = _ by rw [u2_o (by omega)]; exact u2_at)
      have D14 := cD hS hR14
      have gT : ∀ (ρ : Type) (M' : zM) (f : Nat → Option ρ), M'.2.2 = M14.2.2 → zgR S M' 0 11 14 3 f = f (118 - t) := fun ρ M' f h => zgR_of ((hS 0 (by decide)).trans rfl) h314 M' f h
      have g10 : ∀ (ρ : Type) (M' : zM) (f : Nat → Option ρ), M'.2.2 = M14.2.2 → zgR S M' 0 11 14 10 f = f 169 := fun ρ M' f h => zgR_of ((hS 0 (by decide)).trans rfl) (pRg hR14 0 10 169 (by decide)) M' f h
      have g11 : ∀ (ρ : Type) (M' : zM) (f : Nat → Option ρ), M'.2.2 = M14.2.2 → zgR S M' 0 11 14 11 f = f 182 := fun ρ M' f h => zgR_of ((hS 0 (by decide)).trans rfl) (pRg hR14 0 11 182 (by decide)) M' f h
      have r107 : ∀ (ρ : Type) (o : Option ρ), zrc S 107 7 15 o = o := fun ρ o => zrc_ok ((hS 107 (by decide)).trans rfl)
      have r169 : ∀ (ρ : Type) (o : Option ρ), zrc S 169 2 10 o = o := fun ρ o => zrc_ok ((hS 169 (by decide)).trans rfl)
      have r182 : ∀ (ρ : Type) (o : Option ρ), zrc S 182 8 2 o = o := fun ρ o => zrc_ok ((hS 182 (by decide)).trans rfl)
      have c2 : ∀ N : zM, gX2_clear S 169 N = some (zsI (zsI N 169 6 0) 169 7 (-1)) := fun N => by
        unfold gX2_clear
        rw [zpI_ok ((hS 169 (by decide)).trans rfl), zpI_ok ((hS 169 (by decide)).trans rfl)]
      have c8 : ∀ N : zM, gX8_clear S 182 N = some (zsI N 182 1 0) := fun N => by
        unfold gX8_clear
        rw [zpI_ok ((hS 182 (by decide)).trans rfl)]
      have c2b : ∀ (N : zM) (f : zM → Option (Int32 × zM)), (gX2_clear S 169 N).bind f = f (zsI (zsI N 169 6 0) 169 7 (-1)) := fun N f => bind_of (c2 N) f
      have c8b : ∀ (N : zM) (f : zM → Option (Int32 × zM)), (gX8_clear S 182 N).bind f = f (zsI N 182 1 0) := fun N f => bind_of (c8 N) f
      have gl : ∀ (ρ : Type) (M' : zM) (f : Int32 → Option ρ), zgI S M' (118 - t) 10 18 0 f = f (M'.1 (118 - t) 0) := fun ρ M' f => zgI_ok (pTs_of hS hR7 (118 - t) (Or.inr ht')).1
      have pR : ∀ (ρ : Type) (M' : zM) (j : Nat) (x : Option Nat) (f : zM → Option ρ), zpR S M' 0 11 14 j x f = f (zsR M' 0 j x) := fun ρ M' j x f => zpR_ok ((hS 0 (by decide)).trans rfl)
      simp (disch := first | omega | simp only [qI2, qL2, qC2, qF2]) only [gX11_text, if_neg (nI_pos (n := n) (by omega)), ↓D, htp.1, nI_leI, if_pos (show n ≤ tp.1 by omega), ↓g4, ↓r3, ↓zb2_of b1, if_neg (show ¬ (1 : Int32) = 0 by decide), ↓g37, ↓g47, ↓pR, ↓g5, ↓g3, ↓r107, ↓bind_of s1, ↓g10, ↓r169, ↓c2b, ↓g11, ↓r182, ↓c8b, ↓gT, ↓gl, l19]
    have f19 : ∀ x y, ¬ (x = 3 ∨ x = 4 ∨ x = 42) → ¬ (118 - t ≤ x ∧ x ≤ 118 - t + 31) → ¬ (x = 0 ∧ (y = 1 ∨ y = 8)) → ¬ (107 ≤ x ∧ x ≤ 115) → ¬ (x = 169 ∧ (y = 6 ∨ y = 7)) → ¬ (x = 182 ∧ y = 1) → (zsI (zsI (zsI (zsI M14 169 6 0) 169 7 (-1)) 182 1 0) 0 8 0).1 x y = M.1 x y := fun x y q1 q2 q3 q4 q5 q6 => by
      rw [zsI_ne (by omega), zsI_ne (by omega), zsI_ne (by omega), zsI_ne (by omega), s4' _ _ (by omega)]
      exact f7 x y (by unfold cPq; omega) (by omega) (by omega)
    generalize hM19 : zsI (zsI (zsI (zsI M14 169 6 0) 169 7 (-1)) 182 1 0) 0 8 0 = M19 at e1 f19 l19
    have r19 : M19.2.2 = M14.2.2 := by rw [← hM19]; rfl
    have o19 : ∀ x y, ¬ (x = 0 ∨ x = 169 ∨ x = 182) → M19.1 x y = M14.1 x y := fun x y q => by rw [← hM19, zsI_ne (by omega), zsI_ne (by omega), zsI_ne (by omega), zsI_ne (by omega)]
    have hR19 : pRf M19.2.2 := by rw [r19]; exact hR14
    have cc : cIx S M19 (118 - t) E' (K0 E') 0 none (0, st.2) (0, none, no.2.2) (0, tp.2) (0, M19.1 3 3) := by
      refine ⟨⟨hS, hR19, ht', by rw [r19]; exact h314, by rw [r19, h414, show 118 - (118 - t) = t by omega]⟩, pTv_cg (fun a b z1 z2 => (o19 a b (by omega)).trans (s4' a b (by omega))) hV', pSv_cg (fun a b z1 z2 => o19 a b (by omega)) s3, ⟨?_, fun q hq => by cases hq⟩, ⟨?_, fun j hj => absurd hj (Nat.not_lt_zero _)⟩, ⟨?_, ?_, fun j hj => absurd hj (Nat.not_lt_zero _)⟩, ⟨?_, fun j hj => absurd hj (Nat.not_lt_zero _)⟩, ⟨?_, rfl, fun j hj => (f19 6 j (by omega) (by omega) (by omega) (by omega) (by omega) (by omega)).trans (hfl.2.2 j hj)⟩⟩
      · rw [← hM19, zsI_at]; rfl
      · rw [← hM19, zsI_ne (by omega), zsI_at]; rfl
      · rw [← hM19, zsI_ne (by omega), zsI_ne (by omega), zsI_ne (by omega), zsI_at]; rfl
      · rw [← hM19, zsI_ne (by omega), zsI_ne (by omega), zsI_at]; rfl
      · rw [← hM19, zsI_ne (by omega), zsI_ne (by omega), zsI_ne (by omega), zsI_ne (by omega), s4' _ _ (by omega)]
        exact h01
      · rw [o19 3 2 (by omega), s4' 3 2 (by omega)]
        exact h32
    have hm1 : mIx S M19 E K im st no tp fl := mI_cg (A := (t, E, K, le, im, st, no, tp, fl)) hw (fun a b k _ => f19 a b (by omega) (by omega) (by omega) (by omega) (by omega) (by omega)) (pMs_of hS hR19) hm
    have htp1 : mTp M19.1 tp := hm1.2.2.2.2.2.2.1
    obtain ⟨M8, d1, d2, d3, d4, d5, d6⟩ := m_textT (M := M19) hm1.1 htp1.1 (show n ≤ tp.1 by omega) t7 (fun j hj => ⟨(htp1.2 j (by omega)).trans (hT j (by omega)).1, (hT j (by omega)).2⟩) hr
    obtain ⟨-, k2, k3, k4, k5⟩ := d6 E' ln' rfl
    have h0 : eC E' = 0 → ∀ d, d < 100 → eCl E' d = none := fun q d _ => by
      obtain ⟨dt, ct, -, z⟩ := dr.2.2.2.1
      exact z d (fun i hi => by omega)
    obtain ⟨M2, n1, n2, n3, n4, ⟨n26, n27, n58, n59, n45, n46⟩, n6⟩ := m_162 (M := M8) (E := E') (ln := nI ln') (d2.symm ▸ hm1.1) k3 k4 k5 wE' k2 h0
    have r2 : M2.2.2 = M19.2.2 := n2.trans d2
    have o2 : ∀ a b, a < 306 → M2.1 a b = M19.1 a b := fun a b q => (n6 a b (by unfold tQm mS; omega)).trans (d3 a b (by unfold mPq; omega) (by omega))
    have mm : mIx S M2 E' (K0 E') none (0, st.2) (0, none, no.2.2) (0, tp.2) (0, M19.1 3 3) := by
      have mmd1 : mMd M19.1 := hm1.2.2.2.2.2.2.2.2
      have h6 : ∀ y, y = 47 ∨ y = 48 ∨ y = 49 → M2.1 306 y = M19.1 306 y := fun y q => (n6 306 y (by unfold tQm mS; omega)).trans (d3 306 y (by unfold mPq; omega) (by omega))
      exact ⟨r2.symm ▸ hm1.1, n3, n4, ⟨n45, fun q hq => by cases hq⟩, ⟨n46, fun j hj => absurd hj (Nat.not_lt_zero _)⟩, ⟨n58, n59, fun j hj => absurd hj (Nat.not_lt_zero _)⟩, ⟨(n6 306 2 (by unfold tQm mS; omega)).trans d4, fun j hj => absurd hj (Nat.not_lt_zero _)⟩, ⟨n26, n27⟩, ⟨(h6 47 (by omega)).trans mmd1.1, (h6 48 (by omega)).trans mmd1.2.1, (h6 49 (by omega)).trans mmd1.2.2⟩⟩
    have cI' : cI S M19 (118 - t, E', K0 E', 0, none, (0, st.2), (0, none, no.2.2), (0, tp.2), (0, M19.1 3 3)) := cc
    have aw : aWx E' (K0 E') none (0, st.2) (0, none, no.2.2) (0, tp.2) (0, M19.1 3 3) := ⟨wE', wfK_to (wfK_K0 wE') (Nat.zero_le _), fun q hq => (by cases hq), ⟨Nat.zero_le _, fun j hj => absurd hj (Nat.not_lt_zero _)⟩, ⟨Nat.zero_le _, fun b hb => (by cases hb), fun j hj => absurd hj (Nat.not_lt_zero _)⟩, ⟨Nat.zero_le _, fun j hj => absurd hj (Nat.not_lt_zero _)⟩, Nat.zero_le _⟩
    exact ⟨nI ln', M19, M2, e1, d1.trans n1, ⟨(118 - t, E', K0 E', 0, none, (0, st.2), (0, none, no.2.2), (0, tp.2), (0, M19.1 3 3)), aw, cI_cg (fun a b k _ => o2 a b k) (r2.symm ▸ hR19) (by rw [r2]) (by rw [r2]) cI', mm⟩⟩

