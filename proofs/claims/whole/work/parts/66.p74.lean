/-! pure part 74: lines: the class's laws, line, text -/
theorem auR_some {T : Nat → Nat} {n : Nat} (hn : n ≤ 700) : ∀ (k : Nat) (tk : zTk) (s : zAu), tkOk n 0 tk → n < tk.2.2.1 + k → ∃ q, auR T n k tk s = some q
  | 0, tk, s, ho, h => by
    have h1 := ho.1.2.2.2.1
    have h2 := ho.1.2.2.2.2
    omega
  | k + 1, tk, s, ho, h => by
    show ∃ q, (match stepA tk s with | .inl f => some (f, tk, s) | .inr s' => auR T n k (tokS T n tk.2.2.2) s') = some q
    cases hs : stepA tk s with
    | inl f => exact ⟨_, rfl⟩
    | inr s' =>
      have k0 : tk.1 ≠ 0 := by
        unfold stepA at hs
        split at hs
        · exact (beA_w hs).2
        · split at hs
          · cases hs
          · exact (enA_w hs).2
      obtain ⟨p1, p2⟩ := ho.2.1 k0
      have nk := tokS_ok (T := T) (n := n) (a := tk.2.2.2) ho.1.2.2.2.2 hn
      exact auR_some hn k _ s' (tkOk_0 nk) (by have := nk.1.2.2.1; omega)
theorem unw_0 : ∀ (st : List Nat) (out : List (Nat × Int32)), (unw 0 st out).1 = []
  | [], _ => rfl
  | k :: st, out => by
    show (if 0 ≤ rkN k then unw 0 st (out ++ [(k, 0)]) else (k :: st, out)).1 = []
    rw [if_pos (Nat.zero_le _)]
    exact unw_0 st _
section CL
variable {S : List (Nat × Nat)} {M : zM} {T : Nat → Nat} {n t : Nat} {tk : zTk} {E : zEn} {sl sd : Bool} {ln : Nat}
theorem c_lawsL (hn : n ≤ 700) (h : cPp S M T n t tk E sl sd ln) (ho : tkOk n 0 tk) (hk0 : tk.1 ≠ 0) (wE : wfE E) : ∃ (v : Int32) (M' : zM), gX3_laws S 3 M = some (v, M') ∧ cKr S T n t ln M (lnR T n tk E sl sd) v M' := by
  obtain ⟨⟨hS, hR, ht, h31⟩, -, hk, hd, -⟩ := id h
  have P := cP hS hR
  have hT := pTs_of hS hR t (Or.inr ht)
  have F := tG hT
  have gD : ∀ (ρ : Type) (M' : zM) (f : Nat → Option ρ), M'.2.2 = M.2.2 → zgR S M' 3 3 10 1 f = f t := fun ρ M' f h => zgR_of ((hS 3 (by decide)).trans rfl) h31 M' f h
  have n10 : ¬ (1 : Int32) = 0 := by decide
  have o1 := nxk_ok (T := T) hn ho 1
  have o2 := nxk_ok (T := T) hn ho 2
  obtain ⟨M1, a1, a2, a3, a4⟩ := cPp_nx h ho
  have F1 : ∀ x y, ¬ cPq t x y → M1.1 x y = M.1 x y := fun x y q => a3 x y (by unfold cPq at q; unfold q43; omega)
  obtain ⟨a41, a42, a43, a44, a45, a46, a47, a48, a49⟩ := id a4
  have hS1 : pRf M1.2.2 := a2.symm ▸ hR
  obtain ⟨k1, k2, k3, k4⟩ := id a43
  have f1 := c_fails (S := S) (M := M1) (p := (nxk T n 1 tk).2.2.1) (f := 1) hS hS1 k2
  have f3 := c_fails (S := S) (M := M1) (p := (nxk T n 1 tk).2.2.1) (f := 3) hS hS1 k2
  have li7' : (7 : Int32) = nI 7 := rfl
  have li3' : (3 : Int32) = nI 3 := rfl
  unfold lnR
  by_cases c3 : (nxk T n 1 tk).1 = 3
  rotate_left
  · have c3' : ¬ nI (nxk T n 1 tk).1 = 3 := fun e => c3 ((nI_eq (b := 3) (by have := o1.1.1; omega) (by decide)).1 e)
    have k3' : M1.1 4 5 = nI (nxk T n 1 tk).1 := k3
    rw [if_neg (fun e => c3 e.1)]
    refine ⟨0, fM M1 1 (nxk T n 1 tk).2.2.1, ?_, fM_kr a2 F1⟩
    simp (disch := first | omega | simp only [qI2, a2]) only [gX3_laws, ↓P, ↓bind_of a1, k3', if_neg c3', ↓zb2_of f1, zbo0]
    rfl
  have k3' : M1.1 4 5 = 3 := by
    have : M1.1 4 5 = nI (nxk T n 1 tk).1 := k3
    rw [this, c3]; rfl
  have v : M1.1 4 6 = nI (nxk T n 1 tk).2.1 := k4 (Or.inr (Or.inl c3))
  have v20 := (o1.2.2.2.1 c3).1
  by_cases c7 : 7 ≤ (nxk T n 1 tk).2.1
  rotate_left
  · have ng : nI (nxk T n 1 tk).2.1 - nI 7 < 0 := pk_sneg (by omega) (by omega)
    rw [if_neg (fun e => c7 e.2.1)]
    refine ⟨0, fM M1 1 (nxk T n 1 tk).2.2.1, ?_, fM_kr a2 F1⟩
    simp (disch := first | omega | simp only [qI2, a2]) only [gX3_laws, ↓P, ↓bind_of a1, k3', if_true, v, li7', if_pos ng, ↓zb2_of f1, zbo0]
    rfl
  have sb : nI (nxk T n 1 tk).2.1 - nI 7 = nI ((nxk T n 1 tk).2.1 - 7) := pk_sub c7
  generalize hr : (nxk T n 1 tk).2.1 - 7 = r at sb ⊢
  have np : ¬ nI r < 0 := nI_pos (by omega)
  by_cases c10 : (nxk T n 1 tk).2.1 < 10
  rotate_left
  · have r3 : ¬ r < 3 := by omega
    rw [if_neg (fun e => c10 e.2.2)]
    refine ⟨0, fM M1 1 (nxk T n 1 tk).2.2.1, ?_, fM_kr a2 F1⟩
    have r3' : ¬ nI r < (3 : Int32) := nI_nlt (b := 3) (a := r) (by omega) (by omega)
    simp (disch := first | omega | simp only [qI2, a2]) only [gX3_laws, ↓P, ↓bind_of a1, k3', if_true, v, li7', sb, if_neg np, if_neg r3', ↓zb2_of f1, zbo0]
    rfl
  have r3 : r < 3 := by omega
  have r3' : nI r < (3 : Int32) := nI_lt (b := 3) (by omega) (by omega)
  rw [if_pos ⟨c3, c7, c10⟩]
  have hu := pLw_of hS hS1 (t + 21) (by omega)
  have ph : pRu M1.1 (t + 21) r (eRu E r) := by
    obtain ⟨b, h1, h2⟩ := a44.2.2.2.2.2 r r3
    exact ⟨b, Nat.le_trans h1 wE.2.2.2.2.2.1, h2⟩
  have hs := e_has hu r3 ph
  have F1' := tG (pTs_of hS hS1 t (Or.inr ht))
  have hrc : ∀ (ρ : Type) (o : Option ρ), zrc S (t + 21) 1 7 o = o := fun ρ o => zrc_ok hu.1
  by_cases hE : eRu E r = []
  rotate_left
  · rw [if_neg hE] at hs ⊢
    refine ⟨0, fM M1 3 (nxk T n 1 tk).2.2.1, ?_, fM_kr a2 F1⟩
    simp (disch := first | omega | simp only [qI2, a2]) only [gX3_laws, ↓P, ↓bind_of a1, k3', if_true, v, li7', sb, if_neg np, if_pos r3', ↓gD, ↓F, ↓hrc, ↓bind_of hs, if_neg n10, ↓zb2_of f3, zbo0]
    rfl
  · rw [if_pos hE] at hs ⊢
    obtain ⟨u0, ur0, ur1, ur2, ur3, -, -, up1, up3, up5, up7, -, -⟩ := id hu
    have kn : M1.1 (t + 21) 6 = nI (eK E) := a44.1.2.2.2.2.2.2
    have bg : gX1_begin S (t + 21) (nI r) M1 = some (zsI M1 (t + 21 + 5 + 1) r (nI (eK E))) := by
      unfold gX1_begin
      rw [zgR_ok u0 ur2, zgI_ok u0, zrc_ok up5.1, kn, e_set up5 r3, Option.bind_some]
    obtain ⟨⟨f, tk', s'⟩, hq⟩ := auR_some (T := T) hn (n + 2) (nxk T n 2 tk) (true, [], 0, eK E, []) o2 (by omega)
    have p1 := o1.2.1 (by omega)
    have p0 := ho.2.1 hk0
    have o1a : tkOk n tk.2.2.2 (nxk T n 1 tk) := tokS_ok (T := T) (n := n) (a := tk.2.2.2) ho.1.2.2.2.2 hn
    obtain ⟨v9, M9, d1, d2, d3, d4, d5⟩ := c_lawloop (S := S) (T := T) (n := n) (t := t) (b := eK E) (r := r) hn r3 (n + 2) zfu 0 (zsI (zsI (zsI M1 (t + 21 + 5 + 1) r (nI (eK E))) 3 7 0) 3 8 0) (nxk T n 1 tk) (true, [], 0, eK E, []) f tk' s' a41 (cTx_cg (fun x y _ _ _ => by rw [zsI_ne (by omega), zsI_ne (by omega), zsI_ne (by omega)]) a42) (by rw [zsI_ne (by omega), zsI_ne (by omega), zsI_ne (by omega)]; exact k1) o1.1.2.2.2.2 (by have := o1a.1.2.2.1; omega) (by unfold zfu; omega) ⟨by rw [zsI_ne (by omega), zsI_at]; rfl, trivial, zsI_at _ _ _ _, by rw [zsI_ne (by omega), zsI_ne (by omega), zsI_ne (by omega)]; exact a47, by rw [zsI_ne (by omega), zsI_ne (by omega), zsI_ne (by omega)]; exact kn, trivial, trivial, rfl, rfl, wE.2.2.2.2.2.1, Nat.zero_le _⟩ hq
    have d1' : gX3_laws_89 S zfu 3 (nI r) 1 0 (zsI (zsI (zsI M1 (t + 21 + 5 + 1) r (nI (eK E))) 3 7 0) 3 8 0) = some (v9, M9) := d1
    have r9 : M9.2.2 = M.2.2 := d2.trans a2
    rw [hq]
    dsimp only
    have main : gX3_laws S 3 M = some (v9, M9) := by
      simp (disch := first | omega | simp only [qI2, a2]) only [gX3_laws, ↓P, ↓bind_of a1, k3', if_true, v, li7', sb, if_neg np, if_pos r3', ↓gD, ↓F, ↓hrc, ↓bind_of hs, ↓bind_of bg]
      exact d1'
    have F9 : ∀ x y, ¬ cPq t x y → M9.1 x y = M.1 x y := fun x y q => by
      unfold cPq at q
      rw [d3 x y (by unfold cFq; omega) (by omega) (by unfold q43; omega) (by omega), zsI_ne (by omega), zsI_ne (by omega), zsI_ne (by omega)]
      exact F1 x y (by unfold cPq; omega)
    by_cases f9 : f = 9
    · rw [if_pos f9]
      obtain ⟨v1, g1, g2, g3, g4⟩ := d5 f9
      subst v1
      obtain ⟨q1, q2, q3, q4, q5, q6, q7, q8, q9, q10, q11⟩ := g3
      rw [unw_0] at q8
      have q8' : s'.2.2.2.1 = eK E + (unw 0 s'.2.1 s'.2.2.2.2).2.length := q8
      have off : ∀ x y, ¬ (x = 3 ∧ (7 ≤ y ∨ y = 2 ∨ y = 3)) → ¬ x = 42 → ¬ (x = t + 21 ∧ y = 6) → ¬ ((x = t + 23 ∨ x = t + 25) ∧ eK E ≤ y) → ¬ x = 4 → ¬ ((x = t + 27 ∨ x = t + 29) ∧ y = r) → M9.1 x y = M1.1 x y := fun x y z1 z2 z3 z4 z5 z6 => by
        rw [d3 x y (by unfold cFq; omega) (by omega) (by unfold q43; omega) (by omega), zsI_ne (by omega), zsI_ne (by omega), zsI_ne (by omega)]
      refine ⟨1, M9, main, kr_ok r9 F9 ⟨r9.symm ▸ ⟨hS, hR, ht, h31⟩, ?_, g1, cDr_R1 a44 (fun x y z1 z2 z3 => ?_) q5 ?_ g4 q6, (off 3 4 (by omega) (by omega) (by omega) (by omega) (by omega) (by omega)).trans a45, (off 3 5 (by omega) (by omega) (by omega) (by omega) (by omega) (by omega)).trans a46, by rw [q4, q8']; rfl, (off t 0 (by omega) (by omega) (by omega) (by omega) (by omega) (by omega)).trans a48, ?_⟩⟩
      · rw [d2]
        exact cTx_cg (fun x y z1 z2 z3 => by
          rw [d3 x y (by unfold cFq; omega) (by omega) (by unfold q43; omega) (by omega), zsI_ne (by omega), zsI_ne (by omega), zsI_ne (by omega)]) a42
      · have z4 := lv_43 ht z1
        refine off x y (by omega) (by omega) z2 (fun e => ?_) (by omega) z3
        unfold cLv at z1
        omega
      · rw [d3 _ _ (by unfold cFq; omega) (by omega) (by unfold q43; omega) (by omega), zsI_ne (by omega), zsI_ne (by omega)]
        exact zsI_at _ _ _ _
      · rw [g2, zsI_ne (by omega), zsI_ne (by omega), zsI_ne (by omega)]
        exact a49
    · rw [if_neg f9]
      obtain ⟨v1, g1, g2⟩ := d4 f9
      refine ⟨v9, M9, main, r9, F9, fun f' p' e => ?_, fun tk E sl sd e => by cases e⟩
      cases e
      exact ⟨v1, g1, g2⟩
theorem c_endsL (hn : n ≤ 700) (h : cPp S M T n t tk E sl sd ln) (ho : tkOk n 0 tk) {M0 : zM} (h1 : M.2.2 = M0.2.2) (h2 : ∀ x y, ¬ cPq t x y → M.1 x y = M0.1 x y) : ∃ (v : Int32) (M' : zM), gX3_ends S 3 M = some (v, M') ∧ (v = 0 ∨ v = 1) ∧ cKr S T n t ln M0 (finL T n (.inr (tk, E, sl, sd))) v M' := by
  obtain ⟨⟨hS, hR, ht, h31⟩, -, hk, hd, -⟩ := id h
  have P := cP hS hR
  show ∃ (v : Int32) (M' : zM), gX3_ends S 3 M = some (v, M') ∧ (v = 0 ∨ v = 1) ∧ cKr S T n t ln M0 (if tk.1 = 5 then .inr (nxk T n 1 tk, E, sl, sd) else .inl (1, tk.2.2.1)) v M'
  have k3 : M.1 4 5 = nI tk.1 := hk.2.2.1
  by_cases c5 : tk.1 = 5
  · have c5' : nI tk.1 = 5 := by rw [c5]; rfl
    rw [if_pos c5]
    obtain ⟨M1, a1, a2, a3, a4⟩ := cPp_nx h ho
    refine ⟨1, M1, ?_, Or.inr rfl, kr_ok (a2.trans h1) (fun x y q => by rw [a3 x y (by unfold cPq at q; unfold q43; omega)]; exact h2 x y q) a4⟩
    simp (disch := first | omega | simp only [qI2, qL2, qC2, qF2]) only [gX3_ends, ↓P, k3, if_pos c5', ↓bind_of a1]
  · have c5' : ¬ nI tk.1 = 5 := fun e => c5 ((nI_eq (b := 5) (by have := ho.1.1; omega) (by decide)).1 e)
    have f1 := c_fails (S := S) (M := M) (p := tk.2.2.1) (f := 1) hS hR hk.2.1
    rw [if_neg c5]
    refine ⟨0, fM M 1 tk.2.2.1, ?_, Or.inl rfl, fM_kr h1 h2⟩
    simp (disch := first | omega | simp only [qI2, qL2, qC2, qF2]) only [gX3_ends, ↓P, k3, if_neg c5', ↓zb2_of f1, zbo0]
    rfl
end CL
def okL (n a : Nat) (r : zLr) : Prop := ∀ tk E sl sd, r = .inr (tk, E, sl, sd) → tkOk n a tk ∧ wfE E
