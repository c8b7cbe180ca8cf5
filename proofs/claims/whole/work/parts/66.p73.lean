/-! pure part 73: lines: the class's other lines -/
theorem cPp_34 {S : List (Nat × Nat)} {M : zM} {T : Nat → Nat} {n t : Nat} {tk : zTk} {E : zEn} {sl sd : Bool} {ln : Nat} (h : cPp S M T n t tk E sl sd ln) : cPp S (zsI M 3 4 1) T n t tk E true sd ln := by
  obtain ⟨a, b, ⟨c1, c2, c3, c4⟩, d, e, f, g, i, j⟩ := h
  have ht := a.2.2.1
  exact ⟨a, cTx_cg (fun a b _ _ _ => zsI_ne (by omega)) b, ⟨(zsI_ne (by omega)).trans c1, (zsI_ne (by omega)).trans c2, (zsI_ne (by omega)).trans c3, fun q => (zsI_ne (by omega)).trans (c4 q)⟩, cDr_cg (fun a b q => zsI_ne (by have := lv_43 ht q; omega)) d, zsI_at _ _ _ _, (zsI_ne (by omega)).trans f, (zsI_ne (by omega)).trans g, (zsI_ne (by omega)).trans i, (zsI_ne (by omega)).trans j⟩
theorem cPp_35 {S : List (Nat × Nat)} {M : zM} {T : Nat → Nat} {n t : Nat} {tk : zTk} {E : zEn} {sl sd : Bool} {ln : Nat} (h : cPp S M T n t tk E sl sd ln) : cPp S (zsI M 3 5 1) T n t tk E sl true ln := by
  obtain ⟨a, b, ⟨c1, c2, c3, c4⟩, d, e, f, g, i, j⟩ := h
  have ht := a.2.2.1
  exact ⟨a, cTx_cg (fun a b _ _ _ => zsI_ne (by omega)) b, ⟨(zsI_ne (by omega)).trans c1, (zsI_ne (by omega)).trans c2, (zsI_ne (by omega)).trans c3, fun q => (zsI_ne (by omega)).trans (c4 q)⟩, cDr_cg (fun a b q => zsI_ne (by have := lv_43 ht q; omega)) d, (zsI_ne (by omega)).trans e, zsI_at _ _ _ _, (zsI_ne (by omega)).trans g, (zsI_ne (by omega)).trans i, (zsI_ne (by omega)).trans j⟩
/-- one cell of what is told, the rest as it was -/
theorem cPp_ad {S : List (Nat × Nat)} {M : zM} {T : Nat → Nat} {n t x y : Nat} {tk : zTk} {E E' : zEn} {sl sd : Bool} {ln : Nat} {v : Int32} (h : cPp S M T n t tk E sl sd ln) (hx : t ≤ x ∧ x ≤ t + 31) (hy : x = t → y ≠ 0) (hk : eK E' = eK E) (hd : cDr (zsI M x y v).1 t E') : cPp S (zsI M x y v) T n t tk E' sl sd ln := by
  obtain ⟨a, b, ⟨c1, c2, c3, c4⟩, d, e, f, g, i, j⟩ := h
  have ht := a.2.2.1
  exact ⟨a, cTx_cg (fun a b _ _ _ => zsI_ne (by omega)) b, ⟨(zsI_ne (by omega)).trans c1, (zsI_ne (by omega)).trans c2, (zsI_ne (by omega)).trans c3, fun q => (zsI_ne (by omega)).trans (c4 q)⟩, hd, (zsI_ne (by omega)).trans e, (zsI_ne (by omega)).trans f, by rw [hk]; exact (zsI_ne (by omega)).trans g, (zsI_ne (by
    by_cases q : x = t
    · right; have := hy q; omega
    · left; omega)).trans i, (zsI_ne (by omega)).trans j⟩
section CL
variable {S : List (Nat × Nat)} {M : zM} {T : Nat → Nat} {n t : Nat} {tk : zTk} {E : zEn} {sl sd : Bool} {ln : Nat}
theorem kr_ok {M0 M' : zM} {tk' : zTk} {E' : zEn} {sl' sd' : Bool} (h1 : M'.2.2 = M0.2.2) (h2 : ∀ x y, ¬ cPq t x y → M'.1 x y = M0.1 x y) (h3 : cPp S M' T n t tk' E' sl' sd' ln) : cKr S T n t ln M0 (.inr (tk', E', sl', sd')) 1 M' := ⟨h1, h2, fun f p e => (by cases e), fun tk E sl sd e => by
  cases e
  exact ⟨rfl, h3⟩⟩
theorem nw_2 {f : Option Nat} (h : nwF f tk = 0) : tk.1 = 2 := by
  unfold nwF at h
  by_cases z : tk.1 = 2
  · exact z
  · rw [if_neg z] at h; omega
theorem tr_2 {f : Option Nat} (h : trF f tk = 0) : tk.1 = 2 ∧ ∃ j, f = some j := by
  unfold trF at h
  by_cases z : tk.1 = 2
  · rw [if_pos z] at h
    cases f with
    | none => exact absurd h (by decide)
    | some j => exact ⟨z, j, rfl⟩
  · rw [if_neg z] at h; omega
theorem c_works (hn : n ≤ 700) (h : cPp S M T n t tk E sl sd ln) (ho : tkOk n 0 tk) (wE : wfE E) : ∃ (v : Int32) (M' : zM), gX3_works S 3 M = some (v, M') ∧ cKr S T n t ln M (lnW T n tk E sl sd) v M' := by
  obtain ⟨⟨hS, hR, ht, h31⟩, -, hk, hd, -⟩ := id h
  have hT6 := wE.1
  have hP12 := wE.2.1
  have hC10 := wE.2.2.1
  have hW5 := wE.2.2.2.1
  have P := cP hS hR
  have hT := pTs_of hS hR t (Or.inr ht)
  have F := tG hT
  have gD : ∀ (ρ : Type) (M' : zM) (f : Nat → Option ρ), M'.2.2 = M.2.2 → zgR S M' 3 3 10 1 f = f t := fun ρ M' f h => zgR_of ((hS 3 (by decide)).trans rfl) h31 M' f h
  have hrc : ∀ (ρ : Type) (o : Option ρ), zrc S t 10 18 o = o := fun ρ o => zrc_ok hT.1
  have n10 : ¬ (1 : Int32) = 0 := by decide
  have o1 := nxk_ok (T := T) hn ho 1
  have o2 := nxk_ok (T := T) hn ho 2
  have o3 := nxk_ok (T := T) hn ho 3
  have o4 := nxk_ok (T := T) hn ho 4
  unfold lnW
  have g1 : M.1 t 10 = nI (eW E) := hd.1.2.2.2.1
  by_cases c6 : 5 ≤ eW E
  · have c6' : ¬ eW E < 5 := by omega
    have f2 := c_fails (S := S) (M := M) (p := tk.2.2.1) (f := 2) hS hR hk.2.1
    rw [if_pos c6]
    refine ⟨0, fM M 2 tk.2.2.1, ?_, fM_kr rfl (fun _ _ _ => rfl)⟩
    simp (disch := first | omega | simp only [qI2, qL2, qC2, qF2]) only [gX3_works, ↓gD, ↓F, g1, li5, nI_ltI, if_neg c6', ↓P, ↓zb2_of f2, zbo0]
    rfl
  have c6' : eW E < 5 := by omega
  rw [if_neg c6]
  obtain ⟨M1, a1, a2, a3, a4⟩ := cPp_nx h ho
  have F1 : ∀ x y, ¬ cPq t x y → M1.1 x y = M.1 x y := fun x y q => a3 x y (by unfold cPq at q; unfold q43; omega)
  have g1' : M1.1 t 10 = nI (eW E) := a4.2.2.2.1.1.2.2.2.1

  have ne := c_new3 (tk := nxk T n 1 tk) a4 o1 wE
  generalize hc1 : nwF (nmW E (nxk T n 1 tk)) (nxk T n 1 tk) = q1 at ne
  unfold chk
  by_cases e1 : q1 = 0
  rotate_left
  · rw [if_neg e1] at ne ⊢
    refine ⟨0, fM M1 q1 (nxk T n 1 tk).2.2.1, ?_, fM_kr a2 F1⟩
    simp (disch := first | omega | simp only [qI2, a2]) only [gX3_works, ↓gD, ↓F, g1, li5, nI_ltI, if_pos c6', ↓P, ↓bind_of a1, ↓zb2_of ne, if_true]
  rw [if_pos e1] at ne ⊢
  have k2 := nw_2 (by rw [hc1]; exact e1)
  obtain ⟨M2, b1, b2, b3, b4⟩ := cPp_tk (tk := nxk T n 1 tk) a4 o1 (Or.inl k2)
  have r2 : M2.2.2 = M.2.2 := b2.trans a2
  have b5 := cPp_wr (x := t + 14) (y := eW E) (v := nI (nxk T n 1 tk).2.1) b4 (by omega) (by unfold cLv; omega)
  have F2 : ∀ x y, ¬ cPq t x y → (zsI M2 (t + 14) (eW E) (nI (nxk T n 1 tk).2.1)).1 x y = M.1 x y := fun x y q => by
    rw [zsI_ne (by unfold cPq at q; omega), b3 x y (by unfold cPq at q; unfold q43; omega)]
    exact F1 x y q
  have h102 : (zsI M2 (t + 14) (eW E) (nI (nxk T n 1 tk).2.1)).1 t 10 = nI (eW E) := b5.2.2.2.1.1.2.2.2.1
  have nb2 : gX3_isNumber S 3 0 24 (zsI M2 (t + 14) (eW E) (nI (nxk T n 1 tk).2.1)) = _ := c_isNum (S := S) (M := (zsI M2 (t + 14) (eW E) (nI (nxk T n 1 tk).2.1))) (lo := 0) (hi := 24) (tk := nxk T n 2 tk) hS (by rw [qI2, r2]; exact hR) b5.2.2.1 o2 (by decide) (by decide)
  generalize hc2 : nbF 0 24 (nxk T n 2 tk) = q2 at nb2
  by_cases e2 : q2 = 0
  rotate_left
  · rw [if_neg e2] at nb2 ⊢
    refine ⟨0, fM (zsI M2 (t + 14) (eW E) (nI (nxk T n 1 tk).2.1)) q2 (nxk T n 2 tk).2.2.1, ?_, fM_kr r2 F2⟩
    simp (disch := first | omega | simp only [qI2, a2, r2]) only [gX3_works, ↓gD, ↓F, g1, li5, nI_ltI, if_pos c6', ↓P, ↓bind_of a1, ↓zb2_of ne, if_neg n10, g1', ↓zb2_of b1, ↓zb2_of nb2, if_true]
  rw [if_pos e2] at nb2 ⊢
  have k42 := nb_4 (by rw [hc2]; exact e2)
  obtain ⟨M3, d21, d22, d23, d24⟩ := cPp_tk (tk := nxk T n 2 tk) b5 o2 (Or.inr k42.1)
  have r3 : M3.2.2 = M.2.2 := d22.trans r2
  have b25 := cPp_wr (x := t + 16) (y := eW E) (v := nI (nxk T n 2 tk).2.1) d24 (by omega) (by unfold cLv; omega)
  have F3 : ∀ x y, ¬ cPq t x y → (zsI M3 (t + 16) (eW E) (nI (nxk T n 2 tk).2.1)).1 x y = M.1 x y := fun x y q => by
    rw [zsI_ne (by unfold cPq at q; omega), d23 x y (by unfold cPq at q; unfold q43; omega)]
    exact F2 x y q
  have h103 : (zsI M3 (t + 16) (eW E) (nI (nxk T n 2 tk).2.1)).1 t 10 = nI (eW E) := b25.2.2.2.1.1.2.2.2.1
  have nb3 : gX3_isNumber S 3 0 24 (zsI M3 (t + 16) (eW E) (nI (nxk T n 2 tk).2.1)) = _ := c_isNum (S := S) (M := (zsI M3 (t + 16) (eW E) (nI (nxk T n 2 tk).2.1))) (lo := 0) (hi := 24) (tk := nxk T n 3 tk) hS (by rw [qI2, r3]; exact hR) b25.2.2.1 o3 (by decide) (by decide)
  generalize hc3 : nbF 0 24 (nxk T n 3 tk) = q3 at nb3
  by_cases e3 : q3 = 0
  rotate_left
  · rw [if_neg e3] at nb3 ⊢
    refine ⟨0, fM (zsI M3 (t + 16) (eW E) (nI (nxk T n 2 tk).2.1)) q3 (nxk T n 3 tk).2.2.1, ?_, fM_kr r3 F3⟩
    simp (disch := first | omega | simp only [qI2, a2, r2, r3]) only [gX3_works, ↓gD, ↓F, g1, li5, nI_ltI, if_pos c6', ↓P, ↓bind_of a1, ↓zb2_of ne, if_neg n10, g1', ↓zb2_of b1, ↓zb2_of nb2, h102, ↓zb2_of d21, ↓zb2_of nb3, if_true]
  rw [if_pos e3] at nb3 ⊢
  have k43 := nb_4 (by rw [hc3]; exact e3)
  obtain ⟨M4, d31, d32, d33, d34⟩ := cPp_tk (tk := nxk T n 3 tk) b25 o3 (Or.inr k43.1)
  have r4 : M4.2.2 = M.2.2 := d32.trans r3
  have b35 := cPp_wr (x := t + 18) (y := eW E) (v := nI (nxk T n 3 tk).2.1) d34 (by omega) (by unfold cLv; omega)
  have F4 : ∀ x y, ¬ cPq t x y → (zsI M4 (t + 18) (eW E) (nI (nxk T n 3 tk).2.1)).1 x y = M.1 x y := fun x y q => by
    rw [zsI_ne (by unfold cPq at q; omega), d33 x y (by unfold cPq at q; unfold q43; omega)]
    exact F3 x y q
  have h104 : (zsI M4 (t + 18) (eW E) (nI (nxk T n 3 tk).2.1)).1 t 10 = nI (eW E) := b35.2.2.2.1.1.2.2.2.1
  have nb4 : gX3_isNumber S 3 1 9 (zsI M4 (t + 18) (eW E) (nI (nxk T n 3 tk).2.1)) = _ := c_isNum (S := S) (M := (zsI M4 (t + 18) (eW E) (nI (nxk T n 3 tk).2.1))) (lo := 1) (hi := 9) (tk := nxk T n 4 tk) hS (by rw [qI2, r4]; exact hR) b35.2.2.1 o4 (by decide) (by decide)
  generalize hc4 : nbF 1 9 (nxk T n 4 tk) = q4 at nb4
  by_cases e4 : q4 = 0
  rotate_left
  · rw [if_neg e4] at nb4 ⊢
    refine ⟨0, fM (zsI M4 (t + 18) (eW E) (nI (nxk T n 3 tk).2.1)) q4 (nxk T n 4 tk).2.2.1, ?_, fM_kr r4 F4⟩
    simp (disch := first | omega | simp only [qI2, a2, r2, r3, r4]) only [gX3_works, ↓gD, ↓F, g1, li5, nI_ltI, if_pos c6', ↓P, ↓bind_of a1, ↓zb2_of ne, if_neg n10, g1', ↓zb2_of b1, ↓zb2_of nb2, h102, ↓zb2_of d21, ↓zb2_of nb3, h103, ↓zb2_of d31, ↓zb2_of nb4, if_true]
  rw [if_pos e4] at nb4 ⊢
  have k44 := nb_4 (by rw [hc4]; exact e4)
  obtain ⟨M5, d41, d42, d43, d44⟩ := cPp_tk (tk := nxk T n 4 tk) b35 o4 (Or.inr k44.1)
  have r5 : M5.2.2 = M.2.2 := d42.trans r4
  have b45 := cPp_wr (x := t + 20) (y := eW E) (v := nI (nxk T n 4 tk).2.1) d44 (by omega) (by unfold cLv; omega)
  have h109 : (zsI M5 (t + 20) (eW E) (nI (nxk T n 4 tk).2.1)).1 t 10 = nI (eW E) := b45.2.2.2.1.1.2.2.2.1
  refine ⟨1, zsI (zsI M5 (t + 20) (eW E) (nI (nxk T n 4 tk).2.1)) t 10 (nI (eW E + 1)), ?_, kr_ok r5 (fun x y q => ?_) (cPp_ad b45 (by omega) (fun _ => by omega) rfl (cDr_W1 b45.2.2.2.1 (fun x y q1 q2 => zsI_ne (by omega)) (zsI_at _ _ _ _) ?_ ?_ ?_ (by rw [zsI_ne (by omega), zsI_at])))⟩
  · simp (disch := first | omega | simp only [qI2, a2, r2, r3, r4, r5]) only [gX3_works, ↓gD, ↓F, g1, li5, nI_ltI, if_pos c6', ↓P, ↓bind_of a1, ↓zb2_of ne, if_neg n10, g1', ↓zb2_of b1, ↓zb2_of nb2, h102, ↓zb2_of d21, ↓zb2_of nb3, h103, ↓zb2_of d31, ↓zb2_of nb4, h104, ↓zb2_of d41, h109, nI_1]
  · rw [zsI_ne (by unfold cPq at q; omega), zsI_ne (by unfold cPq at q; omega), d43 x y (by unfold cPq at q; unfold q43; omega)]
    exact F4 x y q
  · rw [zsI_ne (by omega), zsI_ne (by omega), d43 _ _ (by unfold q43; omega), zsI_ne (by omega), d33 _ _ (by unfold q43; omega), zsI_ne (by omega), d23 _ _ (by unfold q43; omega), zsI_at]
  · rw [zsI_ne (by omega), zsI_ne (by omega), d43 _ _ (by unfold q43; omega), zsI_ne (by omega), d33 _ _ (by unfold q43; omega), zsI_at]
  · rw [zsI_ne (by omega), zsI_ne (by omega), d43 _ _ (by unfold q43; omega), zsI_at]
theorem c_turns (hn : n ≤ 700) (h : cPp S M T n t tk E sl sd ln) (ho : tkOk n 0 tk) (wE : wfE E) : ∃ (v : Int32) (M' : zM), gX3_turns S 3 M = some (v, M') ∧ cKr S T n t ln M (lnP T n tk E sl sd) v M' := by
  obtain ⟨⟨hS, hR, ht, h31⟩, -, hk, hd, -⟩ := id h
  have hT6 := wE.1
  have hP12 := wE.2.1
  have hC10 := wE.2.2.1
  have hW5 := wE.2.2.2.1
  have P := cP hS hR
  have hT := pTs_of hS hR t (Or.inr ht)
  have F := tG hT
  have gD : ∀ (ρ : Type) (M' : zM) (f : Nat → Option ρ), M'.2.2 = M.2.2 → zgR S M' 3 3 10 1 f = f t := fun ρ M' f h => zgR_of ((hS 3 (by decide)).trans rfl) h31 M' f h
  have hrc : ∀ (ρ : Type) (o : Option ρ), zrc S t 10 18 o = o := fun ρ o => zrc_ok hT.1
  have n10 : ¬ (1 : Int32) = 0 := by decide
  have o1 := nxk_ok (T := T) hn ho 1
  have o2 := nxk_ok (T := T) hn ho 2
  have o3 := nxk_ok (T := T) hn ho 3
  have o4 := nxk_ok (T := T) hn ho 4
  unfold lnP
  have g1 : M.1 t 5 = nI (eP E) := hd.1.2.1
  by_cases c6 : 12 ≤ eP E
  · have c6' : ¬ eP E < 12 := by omega
    have f2 := c_fails (S := S) (M := M) (p := tk.2.2.1) (f := 2) hS hR hk.2.1
    rw [if_pos c6]
    refine ⟨0, fM M 2 tk.2.2.1, ?_, fM_kr rfl (fun _ _ _ => rfl)⟩
    simp (disch := first | omega | simp only [qI2, qL2, qC2, qF2]) only [gX3_turns, ↓gD, ↓F, g1, li12, nI_ltI, if_neg c6', ↓P, ↓zb2_of f2, zbo0]
    rfl
  have c6' : eP E < 12 := by omega
  rw [if_neg c6]
  obtain ⟨M1, a1, a2, a3, a4⟩ := cPp_nx h ho
  have F1 : ∀ x y, ¬ cPq t x y → M1.1 x y = M.1 x y := fun x y q => a3 x y (by unfold cPq at q; unfold q43; omega)
  have g1' : M1.1 t 5 = nI (eP E) := a4.2.2.2.1.1.2.1

  have ne := c_isTr (tk := nxk T n 1 tk) a4 o1 wE
  generalize hc1 : trF (nmT E (nxk T n 1 tk)) (nxk T n 1 tk) = q1 at ne
  unfold chk
  by_cases e1 : q1 = 0
  rotate_left
  · rw [if_neg e1] at ne ⊢
    refine ⟨0, fM M1 q1 (nxk T n 1 tk).2.2.1, ?_, fM_kr a2 F1⟩
    simp (disch := first | omega | simp only [qI2, a2]) only [gX3_turns, ↓gD, ↓F, g1, li12, nI_ltI, if_pos c6', ↓P, ↓bind_of a1, ↓zb2_of ne, if_true]
  rw [if_pos e1] at ne ⊢
  obtain ⟨k2, j, hj⟩ := tr_2 (by rw [hc1]; exact e1)
  obtain ⟨M2, b1, b2, b3, b4⟩ := cPp_tk (tk := nxk T n 1 tk) a4 o1 (Or.inl k2)
  have r2 : M2.2.2 = M.2.2 := b2.trans a2
  have nm : gX10_tradeNamed S t (nI (nxk T n 1 tk).2.1) M2 = some (oI (nmT E (nxk T n 1 tk))) := c_nameT b4 wE _
  have hjT := (fnd_some hj).2.1
  rw [hj] at nm ⊢
  have nm' : gX10_tradeNamed S t (nI (nxk T n 1 tk).2.1) M2 = some (nI j) := nm
  have b5 := cPp_wr (x := t + 8) (y := eP E) (v := nI j) b4 (by omega) (by unfold cLv; omega)
  have g5 : (zsI M2 (t + 8) (eP E) (nI j)).1 t 5 = nI (eP E) := b5.2.2.2.1.1.2.1
  refine ⟨1, zsI (zsI M2 (t + 8) (eP E) (nI j)) t 5 (nI (eP E + 1)), ?_, kr_ok r2 (fun x y q => ?_) (cPp_ad b5 (by omega) (fun _ => by omega) rfl (cDr_P1 b5.2.2.2.1 (fun x y q1 q2 => zsI_ne (by omega)) (zsI_at _ _ _ _) (by rw [zsI_ne (by omega), zsI_at]; rfl)))⟩
  · simp (disch := first | omega | simp only [qI2, a2, r2]) only [gX3_turns, ↓gD, ↓F, g1, li12, nI_ltI, if_pos c6', ↓P, ↓bind_of a1, ↓zb2_of ne, if_neg n10, g1', ↓zb2_of b1, ↓hrc, ↓bind_of nm', g5, nI_1]
  · rw [zsI_ne (by unfold cPq at q; omega), zsI_ne (by unfold cPq at q; omega), b3 x y (by unfold cPq at q; unfold q43; omega)]
    exact F1 x y q
theorem c_claims (hn : n ≤ 700) (h : cPp S M T n t tk E sl sd ln) (ho : tkOk n 0 tk) (wE : wfE E) : ∃ (v : Int32) (M' : zM), gX3_claims S 3 M = some (v, M') ∧ cKr S T n t ln M (lnC T n tk E sl sd) v M' := by
  obtain ⟨⟨hS, hR, ht, h31⟩, -, hk, hd, -⟩ := id h
  have hT6 := wE.1
  have hP12 := wE.2.1
  have hC10 := wE.2.2.1
  have hW5 := wE.2.2.2.1
  have P := cP hS hR
  have hT := pTs_of hS hR t (Or.inr ht)
  have F := tG hT
  have gD : ∀ (ρ : Type) (M' : zM) (f : Nat → Option ρ), M'.2.2 = M.2.2 → zgR S M' 3 3 10 1 f = f t := fun ρ M' f h => zgR_of ((hS 3 (by decide)).trans rfl) h31 M' f h
  have hrc : ∀ (ρ : Type) (o : Option ρ), zrc S t 10 18 o = o := fun ρ o => zrc_ok hT.1
  have n10 : ¬ (1 : Int32) = 0 := by decide
  have o1 := nxk_ok (T := T) hn ho 1
  have o2 := nxk_ok (T := T) hn ho 2
  have o3 := nxk_ok (T := T) hn ho 3
  have o4 := nxk_ok (T := T) hn ho 4
  unfold lnC
  have g1 : M.1 t 7 = nI (eC E) := hd.1.2.2.1
  by_cases c6 : 10 ≤ eC E
  · have c6' : ¬ eC E < 10 := by omega
    have f2 := c_fails (S := S) (M := M) (p := tk.2.2.1) (f := 2) hS hR hk.2.1
    rw [if_pos c6]
    refine ⟨0, fM M 2 tk.2.2.1, ?_, fM_kr rfl (fun _ _ _ => rfl)⟩
    simp (disch := first | omega | simp only [qI2, qL2, qC2, qF2]) only [gX3_claims, ↓gD, ↓F, g1, li10, nI_ltI, if_neg c6', ↓P, ↓zb2_of f2, zbo0]
    rfl
  have c6' : eC E < 10 := by omega
  rw [if_neg c6]
  obtain ⟨M1, a1, a2, a3, a4⟩ := cPp_nx h ho
  have F1 : ∀ x y, ¬ cPq t x y → M1.1 x y = M.1 x y := fun x y q => a3 x y (by unfold cPq at q; unfold q43; omega)
  have g1' : M1.1 t 7 = nI (eC E) := a4.2.2.2.1.1.2.2.1

  have ne := c_isTr (tk := nxk T n 1 tk) a4 o1 wE
  generalize hc1 : trF (nmT E (nxk T n 1 tk)) (nxk T n 1 tk) = q1 at ne
  unfold chk
  by_cases e1 : q1 = 0
  rotate_left
  · rw [if_neg e1] at ne ⊢
    refine ⟨0, fM M1 q1 (nxk T n 1 tk).2.2.1, ?_, fM_kr a2 F1⟩
    simp (disch := first | omega | simp only [qI2, a2]) only [gX3_claims, ↓gD, ↓F, g1, li10, nI_ltI, if_pos c6', ↓P, ↓bind_of a1, ↓zb2_of ne, if_true]
  rw [if_pos e1] at ne ⊢
  obtain ⟨k2, j, hj⟩ := tr_2 (by rw [hc1]; exact e1)
  obtain ⟨M2, b1, b2, b3, b4⟩ := cPp_tk (tk := nxk T n 1 tk) a4 o1 (Or.inl k2)
  have r2 : M2.2.2 = M.2.2 := b2.trans a2
  have nm : gX10_tradeNamed S t (nI (nxk T n 1 tk).2.1) M2 = some (oI (nmT E (nxk T n 1 tk))) := c_nameT b4 wE _
  have hjT := (fnd_some hj).2.1
  rw [hj] at nm ⊢
  have nm' : gX10_tradeNamed S t (nI (nxk T n 1 tk).2.1) M2 = some (nI j) := nm
  have b5 := cPp_wr (x := t + 10) (y := eC E) (v := nI j) b4 (by omega) (by unfold cLv; omega)
  have F2 : ∀ x y, ¬ cPq t x y → (zsI M2 (t + 10) (eC E) (nI j)).1 x y = M.1 x y := fun x y q => by
    rw [zsI_ne (by unfold cPq at q; omega), b3 x y (by unfold cPq at q; unfold q43; omega)]
    exact F1 x y q
  have nb : gX3_isNumber S 3 0 99 (zsI M2 (t + 10) (eC E) (nI j)) = _ := c_isNum (S := S) (M := zsI M2 (t + 10) (eC E) (nI j)) (lo := 0) (hi := 99) (tk := nxk T n 2 tk) hS (by rw [qI2, r2]; exact hR) b5.2.2.1 o2 (by decide) (by decide)
  generalize hc2 : nbF 0 99 (nxk T n 2 tk) = q2 at nb
  by_cases e2 : q2 = 0
  rotate_left
  · rw [if_neg e2] at nb ⊢
    refine ⟨0, fM (zsI M2 (t + 10) (eC E) (nI j)) q2 (nxk T n 2 tk).2.2.1, ?_, fM_kr r2 F2⟩
    simp (disch := first | omega | simp only [qI2, a2, r2]) only [gX3_claims, ↓gD, ↓F, g1, li10, nI_ltI, if_pos c6', ↓P, ↓bind_of a1, ↓zb2_of ne, if_neg n10, g1', ↓zb2_of b1, ↓hrc, ↓bind_of nm', ↓zb2_of nb, if_true]
  rw [if_pos e2] at nb ⊢
  have k4 := nb_4 (by rw [hc2]; exact e2)
  have v2 : (zsI M2 (t + 10) (eC E) (nI j)).1 4 6 = nI (nxk T n 2 tk).2.1 := b5.2.2.1.2.2.2 (Or.inr (Or.inr (Or.inl k4.1)))
  have cl := e_claimant (S := S) (M := zsI M2 (t + 10) (eC E) (nI j)) (t := t) (d := (nxk T n 2 tk).2.1) (E := E) (by rw [qI2, r2]; exact hT) (cDr_T b5.2.2.2.1 wE) wE (by omega)
  cases o : eCl E (nxk T n 2 tk).2.1 with
  | some x =>
    have hx := (wE.2.2.2.2.2.2.2.2.2.2.1 _ _ o).1
    rw [o] at cl
    have cl' : gX10_claimant S t (nI (nxk T n 2 tk).2.1) (zsI M2 (t + 10) (eC E) (nI j)) = some (nI x) := cl
    have nx : ¬ nI x = (-1 : Int32) := nI_m1ne (by omega)
    have f3 := c_fails (S := S) (M := zsI M2 (t + 10) (eC E) (nI j)) (p := (nxk T n 2 tk).2.2.1) (f := 3) hS (by rw [qI2, r2]; exact hR) b5.2.2.1.2.1
    refine ⟨0, fM (zsI M2 (t + 10) (eC E) (nI j)) 3 (nxk T n 2 tk).2.2.1, ?_, fM_kr r2 F2⟩
    simp (disch := first | omega | simp only [qI2, a2, r2]) only [gX3_claims, ↓gD, ↓F, g1, li10, nI_ltI, if_pos c6', ↓P, ↓bind_of a1, ↓zb2_of ne, if_neg n10, g1', ↓zb2_of b1, ↓hrc, ↓bind_of nm', ↓zb2_of nb, v2, ↓bind_of cl', if_neg nx, ↓zb2_of f3, zbo0]
    rfl
  | none =>
    rw [o] at cl
    have cl' : gX10_claimant S t (nI (nxk T n 2 tk).2.1) (zsI M2 (t + 10) (eC E) (nI j)) = some (-1) := cl
    obtain ⟨M3, d1, d2, d3, d4⟩ := cPp_tk (tk := nxk T n 2 tk) b5 o2 (Or.inr k4.1)
    have r3 : M3.2.2 = M.2.2 := d2.trans r2
    have g7 : (zsI M2 (t + 10) (eC E) (nI j)).1 t 7 = nI (eC E) := b5.2.2.2.1.1.2.2.1
    have d5 := cPp_wr (x := t + 12) (y := eC E) (v := nI (nxk T n 2 tk).2.1) d4 (by omega) (by unfold cLv; omega)
    have g8 : (zsI M3 (t + 12) (eC E) (nI (nxk T n 2 tk).2.1)).1 t 7 = nI (eC E) := d5.2.2.2.1.1.2.2.1
    refine ⟨1, zsI (zsI M3 (t + 12) (eC E) (nI (nxk T n 2 tk).2.1)) t 7 (nI (eC E + 1)), ?_, kr_ok r3 (fun x y q => ?_) (cPp_ad d5 (by omega) (fun _ => by omega) rfl (cDr_C1 d5.2.2.2.1 (by omega) o (fun x y q1 q2 => zsI_ne (by omega)) (zsI_at _ _ _ _) (by rw [zsI_ne (by omega), zsI_at]) ?_))⟩
    · simp (disch := first | omega | simp only [qI2, a2, r2, r3]) only [gX3_claims, ↓gD, ↓F, g1, li10, nI_ltI, if_pos c6', ↓P, ↓bind_of a1, ↓zb2_of ne, if_neg n10, g1', ↓zb2_of b1, ↓hrc, ↓bind_of nm', ↓zb2_of nb, v2, ↓bind_of cl', if_true, g7, ↓zb2_of d1, g8, nI_1]
    · rw [zsI_ne (by unfold cPq at q; omega), zsI_ne (by unfold cPq at q; omega), d3 x y (by unfold cPq at q; unfold q43; omega)]
      exact F2 x y q
    · rw [zsI_ne (by omega), zsI_ne (by omega), d3 _ _ (by unfold q43; omega), zsI_at]
      rfl
theorem c_slips (hn : n ≤ 700) (h : cPp S M T n t tk E sl sd ln) (ho : tkOk n 0 tk) (wE : wfE E) : ∃ (v : Int32) (M' : zM), gX3_slips S 3 M = some (v, M') ∧ cKr S T n t ln M (lnS T n tk E sl sd) v M' := by
  obtain ⟨⟨hS, hR, ht, h31⟩, -, hk, hd, -⟩ := id h
  have hT6 := wE.1
  have hP12 := wE.2.1
  have hC10 := wE.2.2.1
  have hW5 := wE.2.2.2.1
  have P := cP hS hR
  have hT := pTs_of hS hR t (Or.inr ht)
  have F := tG hT
  have gD : ∀ (ρ : Type) (M' : zM) (f : Nat → Option ρ), M'.2.2 = M.2.2 → zgR S M' 3 3 10 1 f = f t := fun ρ M' f h => zgR_of ((hS 3 (by decide)).trans rfl) h31 M' f h
  have hrc : ∀ (ρ : Type) (o : Option ρ), zrc S t 10 18 o = o := fun ρ o => zrc_ok hT.1
  have n10 : ¬ (1 : Int32) = 0 := by decide
  have o1 := nxk_ok (T := T) hn ho 1
  have o2 := nxk_ok (T := T) hn ho 2
  have o3 := nxk_ok (T := T) hn ho 3
  have o4 := nxk_ok (T := T) hn ho 4
  unfold lnS
  have gf := h.2.2.2.2.1
  cases q : sl with
  | true =>
    rw [q] at gf
    have gf' : ¬ M.1 3 4 = 0 := by rw [gf]; decide
    have f3 := c_fails (S := S) (M := M) (p := tk.2.2.1) (f := 3) hS hR hk.2.1
    rw [if_pos rfl]
    refine ⟨0, fM M 3 tk.2.2.1, ?_, fM_kr rfl (fun _ _ _ => rfl)⟩
    simp (disch := first | omega | simp only [qI2, qL2, qC2, qF2]) only [gX3_slips, ↓P, if_neg gf', ↓zb2_of f3, zbo0]
    rfl
  | false =>
    rw [q] at gf
    have gf' : M.1 3 4 = 0 := gf
    rw [if_neg Bool.false_ne_true]
    have hp1 := cPp_34 h
    obtain ⟨M1, a1, a2, a3, a4⟩ := cPp_nx hp1 ho
    have F1 : ∀ x y, ¬ cPq t x y → M1.1 x y = M.1 x y := fun x y q => by
      rw [a3 x y (by unfold cPq at q; unfold q43; omega), zsI_ne (by unfold cPq at q; omega)]
    have r1 : M1.2.2 = M.2.2 := a2
    have nb : gX3_isNumber S 3 0 100 M1 = _ := c_isNum (S := S) (M := M1) (lo := 0) (hi := 100) (tk := nxk T n 1 tk) hS (by rw [r1]; exact hR) a4.2.2.1 o1 (by decide) (by decide)
    unfold chk
    generalize hc2 : nbF 0 100 (nxk T n 1 tk) = q2 at nb
    by_cases e2 : q2 = 0
    rotate_left
    · rw [if_neg e2] at nb ⊢
      refine ⟨0, fM M1 q2 (nxk T n 1 tk).2.2.1, ?_, fM_kr r1 F1⟩
      simp (disch := first | omega | simp only [qI2, r1]) only [gX3_slips, ↓P, gf', if_true, ↓bind_of a1, ↓zb2_of nb]
    rw [if_pos e2] at nb ⊢
    have k4 := nb_4 (by rw [hc2]; exact e2)
    obtain ⟨M3, d1, d2, d3, d4⟩ := cPp_tk (tk := nxk T n 1 tk) a4 o1 (Or.inr k4.1)
    have r3 : M3.2.2 = M.2.2 := d2.trans r1
    refine ⟨1, zsI M3 t 15 (nI (nxk T n 1 tk).2.1), ?_, kr_ok r3 (fun x y q => ?_) (cPp_ad d4 (by omega) (fun _ => by omega) rfl (cDr_S1 d4.2.2.2.1 (fun x y q1 q2 => zsI_ne (by omega)) (zsI_at _ _ _ _)))⟩
    · simp (disch := first | omega | simp only [qI2, r1, r3]) only [gX3_slips, ↓P, gf', if_true, ↓bind_of a1, ↓zb2_of nb, if_neg n10, ↓gD, ↓zb2_of d1, ↓F]
    · rw [zsI_ne (by unfold cPq at q; omega), d3 x y (by unfold cPq at q; unfold q43; omega)]
      exact F1 x y q
theorem c_seeds (hn : n ≤ 700) (h : cPp S M T n t tk E sl sd ln) (ho : tkOk n 0 tk) (wE : wfE E) : ∃ (v : Int32) (M' : zM), gX3_seeds S 3 M = some (v, M') ∧ cKr S T n t ln M (lnD T n tk E sl sd) v M' := by
  obtain ⟨⟨hS, hR, ht, h31⟩, -, hk, hd, -⟩ := id h
  have hT6 := wE.1
  have hP12 := wE.2.1
  have hC10 := wE.2.2.1
  have hW5 := wE.2.2.2.1
  have P := cP hS hR
  have hT := pTs_of hS hR t (Or.inr ht)
  have F := tG hT
  have gD : ∀ (ρ : Type) (M' : zM) (f : Nat → Option ρ), M'.2.2 = M.2.2 → zgR S M' 3 3 10 1 f = f t := fun ρ M' f h => zgR_of ((hS 3 (by decide)).trans rfl) h31 M' f h
  have hrc : ∀ (ρ : Type) (o : Option ρ), zrc S t 10 18 o = o := fun ρ o => zrc_ok hT.1
  have n10 : ¬ (1 : Int32) = 0 := by decide
  have o1 := nxk_ok (T := T) hn ho 1
  have o2 := nxk_ok (T := T) hn ho 2
  have o3 := nxk_ok (T := T) hn ho 3
  have o4 := nxk_ok (T := T) hn ho 4
  unfold lnD
  have gf := h.2.2.2.2.2.1
  cases q : sd with
  | true =>
    rw [q] at gf
    have gf' : ¬ M.1 3 5 = 0 := by rw [gf]; decide
    have f3 := c_fails (S := S) (M := M) (p := tk.2.2.1) (f := 3) hS hR hk.2.1
    rw [if_pos rfl]
    refine ⟨0, fM M 3 tk.2.2.1, ?_, fM_kr rfl (fun _ _ _ => rfl)⟩
    simp (disch := first | omega | simp only [qI2, qL2, qC2, qF2]) only [gX3_seeds, ↓P, if_neg gf', ↓zb2_of f3, zbo0]
    rfl
  | false =>
    rw [q] at gf
    have gf' : M.1 3 5 = 0 := gf
    rw [if_neg Bool.false_ne_true]
    have hp1 := cPp_35 h
    obtain ⟨M1, a1, a2, a3, a4⟩ := cPp_nx hp1 ho
    have F1 : ∀ x y, ¬ cPq t x y → M1.1 x y = M.1 x y := fun x y q => by
      rw [a3 x y (by unfold cPq at q; unfold q43; omega), zsI_ne (by unfold cPq at q; omega)]
    have r1 : M1.2.2 = M.2.2 := a2
    have nb : gX3_isNumber S 3 0 99999 M1 = _ := c_isNum (S := S) (M := M1) (lo := 0) (hi := 99999) (tk := nxk T n 1 tk) hS (by rw [r1]; exact hR) a4.2.2.1 o1 (by decide) (by decide)
    unfold chk
    generalize hc2 : nbF 0 99999 (nxk T n 1 tk) = q2 at nb
    by_cases e2 : q2 = 0
    rotate_left
    · rw [if_neg e2] at nb ⊢
      refine ⟨0, fM M1 q2 (nxk T n 1 tk).2.2.1, ?_, fM_kr r1 F1⟩
      simp (disch := first | omega | simp only [qI2, r1]) only [gX3_seeds, ↓P, gf', if_true, ↓bind_of a1, ↓zb2_of nb]
    rw [if_pos e2] at nb ⊢
    have k4 := nb_4 (by rw [hc2]; exact e2)
    obtain ⟨M3, d1, d2, d3, d4⟩ := cPp_tk (tk := nxk T n 1 tk) a4 o1 (Or.inr k4.1)
    have r3 : M3.2.2 = M.2.2 := d2.trans r1
    refine ⟨1, zsI M3 t 16 (nI (nxk T n 1 tk).2.1), ?_, kr_ok r3 (fun x y q => ?_) (cPp_ad d4 (by omega) (fun _ => by omega) rfl (cDr_D1 d4.2.2.2.1 (fun x y q1 q2 => zsI_ne (by omega)) (zsI_at _ _ _ _)))⟩
    · simp (disch := first | omega | simp only [qI2, r1, r3]) only [gX3_seeds, ↓P, gf', if_true, ↓bind_of a1, ↓zb2_of nb, if_neg n10, ↓gD, ↓zb2_of d1, ↓F]
    · rw [zsI_ne (by unfold cPq at q; omega), d3 x y (by unfold cPq at q; unfold q43; omega)]
      exact F1 x y q
end CL
