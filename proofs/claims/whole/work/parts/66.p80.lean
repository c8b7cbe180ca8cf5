/-! pure part 80: lines: the model's laws -/
theorem auR_det {T : Nat → Nat} {n : Nat} : ∀ {k1 k2 : Nat} {tk : zTk} {s : zAu} {a b : Nat × zTk × zAu}, auR T n k1 tk s = some a → auR T n k2 tk s = some b → a = b := by
  intro k1
  induction k1 with
  | zero => intro k2 tk s a b h; cases h
  | succ k1 ih =>
    intro k2 tk s a b h1 h2
    cases k2 with
    | zero => cases h2
    | succ k2 =>
      unfold auR at h1 h2
      cases e : stepA tk s with
      | inl f =>
        rw [e] at h1 h2
        dsimp only at h1 h2
        cases h1
        cases h2
        rfl
      | inr s' =>
        rw [e] at h1 h2
        exact ih h1 h2
section MR
variable {S : List (Nat × Nat)} {M : zM} {T : Nat → Nat} {n : Nat} {tk : zTk} {E : zEn} {sl sd : Bool} {ln : Nat}
theorem mDr_R1 {I I' : Nat → Nat → Int32} {r : Nat} {L : List (Nat × Int32)} (hD : mDr I E) (hI : ∀ x y, 308 ≤ x → x ≤ 321 → ¬ (x = 308 ∧ y = 13) → ¬ ((x = 318 ∨ x = 319) ∧ y = 3 + r) → ¬ ((x = 320 ∨ x = 321) ∧ 64 + eK E ≤ y) → I' x y = I x y) (h1 : I' 308 13 = nI (eK E + L.length)) (h2 : I' 318 (3 + r) = nI (eK E)) (h3 : I' 319 (3 + r) = nI (eK E + L.length)) (h4 : lsM (fun j => I' 320 (64 + j)) (fun j => I' 321 (64 + j)) (eK E) L) : mDr I' (adR E r L) := by
  obtain ⟨⟨a1, a2, a3, a4, a5, a6, a7⟩, b, c, d, e, f⟩ := hD
  refine ⟨⟨(hI _ _ (by omega) (by omega) (by omega) (by omega) (by omega)).trans a1, (hI _ _ (by omega) (by omega) (by omega) (by omega) (by omega)).trans a2, (hI _ _ (by omega) (by omega) (by omega) (by omega) (by omega)).trans a3, (hI _ _ (by omega) (by omega) (by omega) (by omega) (by omega)).trans a4, (hI _ _ (by omega) (by omega) (by omega) (by omega) (by omega)).trans a5, (hI _ _ (by omega) (by omega) (by omega) (by omega) (by omega)).trans a6, h1⟩, fun i hi => ⟨(hI _ _ (by omega) (by omega) (by omega) (by omega) (by omega)).trans (b i hi).1, (hI _ _ (by omega) (by omega) (by omega) (by omega) (by omega)).trans (b i hi).2.1, (hI _ _ (by omega) (by omega) (by omega) (by omega) (by omega)).trans (b i hi).2.2⟩, fun i hi => (hI _ _ (by omega) (by omega) (by omega) (by omega) (by omega)).trans (c i hi), fun i hi => (hI _ _ (by omega) (by omega) (by omega) (by omega) (by omega)).trans (d i hi), fun i hi => ⟨(hI _ _ (by omega) (by omega) (by omega) (by omega) (by omega)).trans (e i hi).1, (hI _ _ (by omega) (by omega) (by omega) (by omega) (by omega)).trans (e i hi).2.1, (hI _ _ (by omega) (by omega) (by omega) (by omega) (by omega)).trans (e i hi).2.2.1, (hI _ _ (by omega) (by omega) (by omega) (by omega) (by omega)).trans (e i hi).2.2.2⟩, fun x hx => ?_⟩
  show pRm I' x (eK E + L.length) (uqA (eRu E) r L x)
  by_cases q : x = r
  · rw [q, uqA_i]
    exact ⟨eK E, Nat.le_refl _, h2, h3, h4⟩
  · rw [uqA_n q]
    obtain ⟨b0, k1, k2, k3, k4⟩ := f x hx
    exact ⟨b0, by omega, (hI _ _ (by omega) (by omega) (by omega) (by omega) (by omega)).trans k2, (hI _ _ (by omega) (by omega) (by omega) (by omega) (by omega)).trans k3, lsM_cg (fun j z1 z2 => ⟨(hI _ _ (by omega) (by omega) (by omega) (by omega) (by omega)), (hI _ _ (by omega) (by omega) (by omega) (by omega) (by omega))⟩) k4⟩
theorem d_law65 (hS : pMs S M.2.2) (hd : ¬ M.1 306 24 = 0) (x : Int32) : gX12_lawLine_65 S 306 x M = some M := by simp (disch := first | omega | simp only [qI2, qL2, qC2, qF2]) only [gX12_lawLine_65, ↓mH hS, if_neg hd]
theorem d_law30 (hS : pMs S M.2.2) (hd : ¬ M.1 306 24 = 0) : gX12_lawLine_30 S 306 M = some M := by
  have d := fun x => d_law65 hS hd x
  simp (disch := first | omega | simp only [qI2, qL2, qC2, qF2]) only [gX12_lawLine_30, ↓mH hS, if_neg hd, d]
theorem m_laws (h : mPp S M T n tk E sl sd ln) (hn : n ≤ 700) (ho : tkOk n 0 tk) (wE : wfE E) : ∃ M', gX12_line_70 S 306 6 M = some M' ∧ mKr S T n (ln + 1) M (finL T n (lnR T n tk E sl sd)) M' := by
  obtain ⟨hS, h24, h21, tsv⟩ := mPp_t h
  have o1 := nxk_ok (T := T) hn ho 1
  have o2 := nxk_ok (T := T) hn ho 2
  obtain ⟨v0, M4, p1, p2, p3, p4, p5⟩ := m_pre h ho (w := 6) (by omega)
  rw [if_neg (by omega), if_neg (by omega)] at p5
  have p1' : M.1 306 17 ||| ((1 : Int32) <<< (6 &&& 31)) = v0 := p1
  have hS4 : pMs S M4.2.2 := p3.symm ▸ hS
  have road : ∀ {M5 : zM}, gX12_lawLine S 306 M4 = some M5 → gX12_line_70 S 306 6 M = gX12_line_358 S 306 M5 := fun e => by
    simp (disch := first | omega | simp only [qI2, qL2, qC2, qF2]) only [gX12_line_70, ↓mH hS, h24, p1', ↓bind_of p2, if_neg (show ¬ (6 : Int32) = 0 by decide), if_neg (show ¬ (6 : Int32) = 1 by decide), if_neg (show ¬ (6 : Int32) = 2 by decide), if_neg (show ¬ (6 : Int32) = 3 by decide), if_neg (show ¬ (6 : Int32) = 4 by decide), if_neg (show ¬ (6 : Int32) = 5 by decide), if_true, ↓bind_of e]
  have k24 : M4.1 306 24 = 0 := p5.2.1.1
  have ksv : mSv (nxk T n 1 tk).1 (nxk T n 1 tk).2.1 (M4.1 306 22) (M4.1 306 23) := p5.1.2.2.2
  have li7' : (7 : Int32) = nI 7 := rfl
  have li9' : (9 : Int32) = nI 9 := rfl
  unfold lnR
  by_cases c : (nxk T n 1 tk).1 = 3 ∧ 7 ≤ (nxk T n 1 tk).2.1 ∧ (nxk T n 1 tk).2.1 < 10
  rotate_left
  · rw [if_neg c]
    have w1 : gX12_wrong S 306 1 M4 = some (wFm M4 1 (nxk T n 1 tk).2.2.1) := m_wrg p5 1
    have dd : ¬ (wFm M4 1 (nxk T n 1 tk).2.2.1).1 306 24 = 0 := wFm_d (by omega)
    have d30 := d_law30 (S := S) (M := wFm M4 1 (nxk T n 1 tk).2.2.1) hS4 dd
    have e : gX12_lawLine S 306 M4 = some (wFm M4 1 (nxk T n 1 tk).2.2.1) := by
      have sc : ¬ (M4.1 306 22 = 0) ∨ ∃ m, M4.1 306 22 = 0 ∧ M4.1 306 23 = nI m ∧ m < 100 ∧ (m < 7 ∨ 9 < m) := by
        by_cases q : M4.1 306 22 = 0
        · right
          rcases (m_sort1 ksv o1).2.1 q with z | ⟨z1, z2⟩
          · have := o1.2.2.2.1 z
            exact ⟨_, q, (ksv.2.2.2.1 z).2, by omega, by omega⟩
          · have := o1.2.2.1 z1
            exact ⟨_, q, ((ksv.2.2.2.2.2.2.2.2 z1).1 z2).2, by omega, by omega⟩
        · exact Or.inl q
      rcases sc with q | ⟨m, q1, q2, q3, q4⟩
      · simp (disch := first | omega | simp only [qI2, qL2, qC2, qF2]) only [gX12_lawLine, ↓mH hS4, if_neg q, ↓bind_of w1, d30]
      · rcases q4 with q4 | q4
        · simp (disch := first | omega | simp only [qI2, qL2, qC2, qF2]) only [gX12_lawLine, ↓mH hS4, if_pos q1, q2, li7', nI_ltI, if_pos q4, ↓bind_of w1, d30]
        · simp (disch := first | omega | simp only [qI2, qL2, qC2, qF2]) only [gX12_lawLine, ↓mH hS4, if_pos q1, q2, li7', li9', nI_ltI, nI_leI, if_neg (show ¬ m < 7 by omega), if_neg (show ¬ m ≤ 9 by omega), ↓bind_of w1, d30]
    have d3 := d_358 (S := S) (M := wFm M4 1 (nxk T n 1 tk).2.2.1) hS4 dd
    refine ⟨wFm M4 1 (nxk T n 1 tk).2.2.1, (road e).trans d3, mK_i (by omega) p3 (fun x y z => ?_) (by unfold wFm; rw [zsI_ne (by omega), zsI_at]) (zsI_at _ _ _ _)⟩
    unfold wFm
    rw [zsI_ne (by unfold mPq at z; omega), zsI_ne (by unfold mPq at z; omega)]
    exact p4 x y z
  obtain ⟨c3, c7, c10⟩ := id c
  rw [if_pos c]
  have s0 := (ksv.2.2.2.1 c3).1
  have v := (ksv.2.2.2.1 c3).2
  have vl : ¬ (nxk T n 1 tk).2.1 < 7 := by omega
  have v9 : (nxk T n 1 tk).2.1 ≤ 9 := by omega
  have sb : nI (nxk T n 1 tk).2.1 - (7 : Int32) = nI ((nxk T n 1 tk).2.1 - 7) := pk_sub c7
  have e30 : gX12_lawLine S 306 M4 = gX12_lawLine_30 S 306 M4 := by
    simp (disch := first | omega | simp only [qI2, qL2, qC2, qF2]) only [gX12_lawLine, ↓mH hS4, if_pos s0, v, li7', li9', nI_ltI, if_neg vl, nI_leI, if_pos v9]
  obtain ⟨p, b1, b2, b3, b4⟩ := id p5.2.2.2
  generalize hr : (nxk T n 1 tk).2.1 - 7 = r at sb ⊢
  have hr3 : r < 3 := by omega
  have sh : (16 : Int32) + nI r = nI (16 + r) := nI_add 16 r
  have bt := bsb1 (p := p) (h := 16 + r) (by omega)
  rw [← b1] at bt
  by_cases hE : eRu E r = []
  rotate_left
  · rw [if_neg hE]
    have w3 : gX12_wrong S 306 3 M4 = some (wFm M4 3 (nxk T n 1 tk).2.2.1) := m_wrg p5 3
    have dd : ¬ (wFm M4 3 (nxk T n 1 tk).2.2.1).1 306 24 = 0 := wFm_d (by omega)
    have d65 := fun x => d_law65 (S := S) (M := wFm M4 3 (nxk T n 1 tk).2.2.1) hS4 dd x
    have bt' : (M4.1 306 17 >>> (nI (16 + r) &&& 31)) &&& 1 = (1 : Int32) := bt.2 ((b4 r hr3).2 hE)
    have e : gX12_lawLine S 306 M4 = some (wFm M4 3 (nxk T n 1 tk).2.2.1) := e30.trans (by
      simp (disch := first | omega | simp only [qI2, qL2, qC2, qF2]) only [gX12_lawLine_30, ↓mH hS4, k24, if_true, v, sb, sh, if_pos bt', ↓bind_of w3, d65])
    have d3 := d_358 (S := S) (M := wFm M4 3 (nxk T n 1 tk).2.2.1) hS4 dd
    refine ⟨wFm M4 3 (nxk T n 1 tk).2.2.1, (road e).trans d3, mK_i (by omega) p3 (fun x y z => ?_) (by unfold wFm; rw [zsI_ne (by omega), zsI_at]) (zsI_at _ _ _ _)⟩
    unfold wFm
    rw [zsI_ne (by unfold mPq at z; omega), zsI_ne (by unfold mPq at z; omega)]
    exact p4 x y z
  rw [if_pos hE]
  have or := or24u (p := p) (h := 16 + r) (by omega)
  rw [← b1] at or
  have bt' : ¬ ((M4.1 306 17 >>> (nI (16 + r) &&& 31)) &&& 1 = (1 : Int32)) := fun q => (b4 r hr3).1 (bt.1 q) hE
  obtain ⟨⟨x0, t0⟩, ⟨g24, g25, g28, g29, g18⟩, gD, -⟩ := id p5
  have fp6 : mFp S (zsI M4 306 17 (nI (bs (upB p (16 + r)) 24))) T n (eK E) (nxk T n 1 tk) 0 (eK E) [] := ⟨mTx_cg (fun a b q => zsI_ne (by omega)) x0, ⟨(zsI_ne (by omega)).trans t0.1, (zsI_ne (by omega)).trans t0.2.1, by rw [zsI_ne (by omega), zsI_ne (by omega)]; exact t0.2.2⟩, (zsI_ne (by omega)).trans g24, (zsI_ne (by omega)).trans g28, (zsI_ne (by omega)).trans g29, (zsI_ne (by omega)).trans gD.1.2.2.2.2.2.2, trivial⟩
  obtain ⟨M5, -, f1, f2, f3, f4⟩ := mF_goOn fp6 o1
  have k5 : M5.1 308 13 = nI (eK E) := f4.2.2.2.2.2.1
  have hS5 : pMs S M5.2.2 := f4.1.1
  have fr5 : gX12_fresher S 306 6 M5 = some (nI (eK E)) := (m_frs (S := S) (M := M5) (k := 6) (x := 6) hS5 rfl (by omega)).trans (congrArg some k5)
  have fp7 : mFp S (zsI M5 318 (3 + r) (nI (eK E))) T n (eK E) (nxk T n 2 tk) 0 (eK E) [] := by
    obtain ⟨u1, u2, u3, u4, u5, u6, u7⟩ := f4
    exact ⟨mTx_cg (fun a b q => zsI_ne (by omega)) u1, ⟨(zsI_ne (by omega)).trans u2.1, (zsI_ne (by omega)).trans u2.2.1, by rw [zsI_ne (by omega), zsI_ne (by omega)]; exact u2.2.2⟩, (zsI_ne (by omega)).trans u3, (zsI_ne (by omega)).trans u4, (zsI_ne (by omega)).trans u5, (zsI_ne (by omega)).trans u6, trivial⟩
  obtain ⟨M8, x1, x2, x3, x4⟩ := expr_ok hn n 0 10 (by omega) (by omega) _ (nxk T n 2 tk) [] (eK E) [] fp7 o2 rfl wE.2.2.2.2.2.1 (by decide) (fun q => absurd q Bool.false_ne_true) (by omega)
  have r8 : M8.2.2 = M.2.2 := x2.trans (f2.trans p3)
  have hS8 : pMs S M8.2.2 := r8.symm ▸ hS
  have fr8 : gX12_fresher S 306 6 M8 = some (M8.1 308 13) := m_frs (S := S) (M := M8) (k := 6) (x := 6) hS8 rfl (by omega)
  have w318 : ∀ (ρ : Type) (M : zM) (v : Int32) (f : zM → Option ρ), zbI S M 318 ((3 : Int32) + nI r) v f = f (zsI M 318 (3 + r) v) := fun ρ M v f => wU (c := 3) (N := 6) (pMg hS 13 318 100 6 (by decide)).2 (by omega) (by decide) ρ M v f
  have w319 : ∀ (ρ : Type) (M : zM) (v : Int32) (f : zM → Option ρ), zbI S M 319 ((3 : Int32) + nI r) v f = f (zsI M 319 (3 + r) v) := fun ρ M v f => wU (c := 3) (N := 6) (pMg hS 14 319 100 6 (by decide)).2 (by omega) (by decide) ρ M v f
  have e : gX12_lawLine S 306 M4 = some (zsI M8 319 (3 + r) (M8.1 308 13)) := e30.trans (by
    simp (disch := first | omega | simp only [qI2, qL2, qC2, qF2]) only [gX12_lawLine_30, ↓mH hS4, k24, if_true, v, sb, sh, if_neg bt', gX12_lawLine_65, or, ↓bind_of f1, ↓mH hS5, ↓bind_of fr5, ↓w318, ↓bind_of x1, ↓mH hS8, ↓bind_of fr8, ↓w319])
  obtain ⟨q, hq⟩ := auR_some (T := T) hn (n + 2) (nxk T n 2 tk) (true, [], 0, eK E, []) o2 (by omega)
  have F8 : ∀ x y, ¬ mPq x y → (zsI M8 319 (3 + r) (M8.1 308 13)).1 x y = M.1 x y := fun x y z => by
    rw [zsI_ne (by unfold mPq at z; omega), x3 x y (by unfold mPq at z; unfold mFq; omega), zsI_ne (by unfold mPq at z; omega), f3 x y (by unfold mPq at z; unfold mFq; omega), zsI_ne (by unfold mPq at z; omega)]
    exact p4 x y z
  rw [hq]
  dsimp only
  rcases x4 with ⟨k, tk', s', f, z1, z2, z3, z4, z5⟩ | ⟨k, tk', pend, c', seg, Lp, z1, z2, z3, z4, z5, z6, z7, z8, z9⟩
  · have hq2 := auR_of z1 z2 (Nat.lt_succ_self k)
    have e1 := auR_det hq hq2
    subst e1
    dsimp only
    rw [if_neg (show ¬ f = 9 by omega)]
    have dd : ¬ (zsI M8 319 (3 + r) (M8.1 308 13)).1 306 24 = 0 := by
      rw [zsI_ne (by omega), z4]
      rcases z3 with rfl | rfl <;> decide
    have d3 := d_358 (S := S) (M := zsI M8 319 (3 + r) (M8.1 308 13)) hS8 dd
    exact ⟨_, (road e).trans d3, mK_i (by omega) r8 F8 (by rw [zsI_ne (by omega)]; exact z4) (by rw [zsI_ne (by omega)]; exact z5)⟩
  have sne : seg ≠ [] := fun q => by
    have := z4 0
    rw [q] at this
    cases this
  obtain ⟨u1, u2, u3, u4, u5, u6, u7⟩ := id z6
  have u6' : M8.1 308 13 = nI (eK E + seg.length) := u6
  have bF : mPp S (zsI M8 319 (3 + r) (M8.1 308 13)) T n tk' (adR E r seg) sl sd ln := by
    refine ⟨⟨mTx_cg (fun a b q => zsI_ne (by omega)) u1, (zsI_ne (by omega)).trans u2.1, (zsI_ne (by omega)).trans u2.2.1, by rw [zsI_ne (by omega), zsI_ne (by omega)]; exact u2.2.2⟩, ⟨(zsI_ne (by omega)).trans u3, (zsI_ne (by omega)).trans u1.2.1.2, (zsI_ne (by omega)).trans u4, by rw [zsI_ne (by omega), u5, z7]; rfl, ?_⟩, mDr_R1 gD (fun x y k1 k2 k3 k4 k5 => ?_) ((zsI_ne (by omega)).trans u6') ?_ ((zsI_at _ _ _ _).trans u6') (lsM_cg (fun j _ _ => ⟨zsI_ne (by omega), zsI_ne (by omega)⟩) u7), ⟨upB p (16 + r), ?_, ?_, ?_, fun k hk => ?_⟩⟩
    · rw [zsI_ne (by omega), x3 306 18 (by unfold mFq; omega), zsI_ne (by omega), f3 306 18 (by unfold mFq; omega), zsI_ne (by omega)]
      exact g18
    · rw [zsI_ne (by omega), x3 x y (by unfold mFq; omega), zsI_ne (by omega), f3 x y (by unfold mFq; omega), zsI_ne (by omega)]
    · rw [zsI_ne (by omega), x3 318 (3 + r) (by unfold mFq; omega), zsI_at]
    · rw [zsI_ne (by omega), x3 306 17 (by unfold mFq; omega), zsI_ne (by omega), f3 306 17 (by unfold mFq; omega), zsI_at]
    · unfold upB
      rw [if_neg (by omega)]
      exact b2
    · unfold upB
      rw [if_neg (by omega)]
      exact b3
    · show upB p (16 + r) (16 + k) = true ↔ uqA (eRu E) r seg k ≠ []
      unfold upB
      by_cases q : k = r
      · rw [q, uqA_i, if_pos rfl]
        exact ⟨fun _ => sne, fun _ => rfl⟩
      · rw [uqA_n q, if_neg (by omega)]
        exact b4 k hk
  obtain ⟨M9, y1, y2⟩ := m_358 bF (tkOk_w z9 (Nat.zero_le _)) r8 F8
  refine ⟨M9, (road e).trans y1, ?_⟩
  by_cases c5 : tk'.1 = 5
  · have st : stepA tk' (false, pend ++ [], 0, c', Lp) = .inl 9 := by
      unfold stepA
      rw [if_neg Bool.false_ne_true, if_pos ⟨rfl, c5⟩]
    have hq2 := auR_of z1 st (Nat.lt_succ_self k)
    have e1 := auR_det hq hq2
    subst e1
    dsimp only
    rw [if_pos rfl]
    have us : (unw 0 (pend ++ []) Lp).2 = seg := by
      rw [unw_app (fun x hx => Nat.zero_le _), z3]
      rfl
    rw [us]
    exact y2
  · have st : stepA tk' (false, pend ++ [], 0, c', Lp) = .inl 1 := by
      unfold stepA
      rw [if_neg Bool.false_ne_true, if_neg (fun q => c5 q.2)]
      show enA tk' (pend ++ []) 0 c' Lp = _
      unfold enA
      rw [if_neg (fun q => Nat.lt_irrefl _ q.2)]
      obtain ⟨w1, w2, w3, w4, w5⟩ := z5
      have a1 := w1 (by omega)
      have a2 := w2 (by omega)
      have a3 := w3 (by omega)
      have a4 := w4 (by omega)
      have a5 := w5 (by omega)
      by_cases e8 : tk'.1 = 8 ∧ tk'.2.1 ≠ 5
      · rw [if_pos e8]
        have := z9.2.2.1 e8.1
        have h6 : 6 ≤ tk'.2.1 := by omega
        have t4 := a3 e8.1 h6
        have r4 : rkN tk'.2.1 = 4 := by
          unfold rkN
          rw [if_neg (by omega), if_neg (by omega), if_pos h6]
        unfold enB
        rw [r4, if_pos rfl, if_pos ⟨rfl, t4⟩]
      · rw [if_neg e8]
    have hq2 := auR_of z1 st (Nat.lt_succ_self k)
    have e1 := auR_det hq hq2
    subst e1
    dsimp only
    rw [if_neg (show ¬ (1 : Nat) = 9 by decide)]
    have fe : finL T n (.inr (tk', adR E r seg, sl, sd)) = .inl (1, tk'.2.2.1) := if_neg c5
    rw [fe] at y2
    exact y2
end MR
