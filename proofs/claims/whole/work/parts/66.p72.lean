/-! pure part 72: lines: what they say; the class's lines -/
def nwF (f : Option Nat) (tk : zTk) : Nat := if tk.1 = 2 then (match f with | none => 0 | some _ => 3) else 1
def trF (f : Option Nat) (tk : zTk) : Nat := if tk.1 = 2 then (match f with | none => 4 | some _ => 0) else 1
abbrev zLr : Type := (Nat × Nat) ⊕ (zTk × zEn × Bool × Bool)
def chk (c : Nat) (tk : zTk) (k : zLr) : zLr := if c = 0 then k else .inl (c, tk.2.2.1)
def nxk (T : Nat → Nat) (n : Nat) : Nat → zTk → zTk
  | 0, tk => tk
  | k + 1, tk => tokS T n (nxk T n k tk).2.2.2
def nmT (E : zEn) (tk : zTk) : Option Nat := fnd (eTn E) (nI tk.2.1) (eT E) 0
def nmW (E : zEn) (tk : zTk) : Option Nat := fnd (eWn E) (nI tk.2.1) (eW E) 0
def lnT (T : Nat → Nat) (n : Nat) (tk : zTk) (E : zEn) (sl sd : Bool) : zLr := if 6 ≤ eT E then .inl (2, tk.2.2.1) else chk (nwF (nmT E (nxk T n 1 tk)) (nxk T n 1 tk)) (nxk T n 1 tk) (chk (nbF 0 23 (nxk T n 2 tk)) (nxk T n 2 tk) (chk (nbF 0 9 (nxk T n 3 tk)) (nxk T n 3 tk) (.inr (nxk T n 4 tk, adT E (nI (nxk T n 1 tk).2.1) (nxk T n 2 tk).2.1 (nxk T n 3 tk).2.1, sl, sd))))
def lnP (T : Nat → Nat) (n : Nat) (tk : zTk) (E : zEn) (sl sd : Bool) : zLr := if 12 ≤ eP E then .inl (2, tk.2.2.1) else chk (trF (nmT E (nxk T n 1 tk)) (nxk T n 1 tk)) (nxk T n 1 tk) (.inr (nxk T n 2 tk, adP E ((nmT E (nxk T n 1 tk)).getD 0), sl, sd))
def lnC (T : Nat → Nat) (n : Nat) (tk : zTk) (E : zEn) (sl sd : Bool) : zLr := if 10 ≤ eC E then .inl (2, tk.2.2.1) else chk (trF (nmT E (nxk T n 1 tk)) (nxk T n 1 tk)) (nxk T n 1 tk) (chk (nbF 0 99 (nxk T n 2 tk)) (nxk T n 2 tk) (match eCl E (nxk T n 2 tk).2.1 with | some _ => .inl (3, (nxk T n 2 tk).2.2.1) | none => .inr (nxk T n 3 tk, adC E (nxk T n 2 tk).2.1 ((nmT E (nxk T n 1 tk)).getD 0), sl, sd)))
def lnW (T : Nat → Nat) (n : Nat) (tk : zTk) (E : zEn) (sl sd : Bool) : zLr := if 5 ≤ eW E then .inl (2, tk.2.2.1) else chk (nwF (nmW E (nxk T n 1 tk)) (nxk T n 1 tk)) (nxk T n 1 tk) (chk (nbF 0 24 (nxk T n 2 tk)) (nxk T n 2 tk) (chk (nbF 0 24 (nxk T n 3 tk)) (nxk T n 3 tk) (chk (nbF 1 9 (nxk T n 4 tk)) (nxk T n 4 tk) (.inr (nxk T n 5 tk, adW E (nI (nxk T n 1 tk).2.1) (nxk T n 2 tk).2.1 (nxk T n 3 tk).2.1 (nxk T n 4 tk).2.1, sl, sd)))))
def lnS (T : Nat → Nat) (n : Nat) (tk : zTk) (E : zEn) (sl sd : Bool) : zLr := if sl then .inl (3, tk.2.2.1) else chk (nbF 0 100 (nxk T n 1 tk)) (nxk T n 1 tk) (.inr (nxk T n 2 tk, adS E (nxk T n 1 tk).2.1, true, sd))
def lnD (T : Nat → Nat) (n : Nat) (tk : zTk) (E : zEn) (sl sd : Bool) : zLr := if sd then .inl (3, tk.2.2.1) else chk (nbF 0 99999 (nxk T n 1 tk)) (nxk T n 1 tk) (.inr (nxk T n 2 tk, adD E (nI (nxk T n 1 tk).2.1), sl, true))
def lnR (T : Nat → Nat) (n : Nat) (tk : zTk) (E : zEn) (sl sd : Bool) : zLr := if (nxk T n 1 tk).1 = 3 ∧ 7 ≤ (nxk T n 1 tk).2.1 ∧ (nxk T n 1 tk).2.1 < 10 then (if eRu E ((nxk T n 1 tk).2.1 - 7) = [] then (match auR T n (n + 2) (nxk T n 2 tk) (true, [], 0, eK E, []) with | none => .inl (0, 0) | some q => if q.1 = 9 then .inr (q.2.1, adR E ((nxk T n 1 tk).2.1 - 7) (unw 0 q.2.2.2.1 q.2.2.2.2.2.2).2, sl, sd) else .inl (q.1, q.2.1.2.2.1)) else .inl (3, (nxk T n 1 tk).2.2.1)) else .inl (1, (nxk T n 1 tk).2.2.1)
def finL (T : Nat → Nat) (n : Nat) (r : zLr) : zLr := match r with | .inl e => .inl e | .inr q => if q.1.1 = 5 then .inr (nxk T n 1 q.1, q.2) else .inl (1, q.1.2.2.1)
def kndL (T : Nat → Nat) (n : Nat) (tk : zTk) (E : zEn) (sl sd : Bool) : zLr := if tk.2.1 = 0 then lnT T n tk E sl sd else if tk.2.1 = 1 then lnP T n tk E sl sd else if tk.2.1 = 2 then lnC T n tk E sl sd else if tk.2.1 = 3 then lnW T n tk E sl sd else if tk.2.1 = 4 then lnS T n tk E sl sd else if tk.2.1 = 5 then lnD T n tk E sl sd else lnR T n tk E sl sd
def lineS (T : Nat → Nat) (n : Nat) (tk : zTk) (E : zEn) (sl sd : Bool) : zLr := if tk.1 = 3 ∧ tk.2.1 ≤ 6 then finL T n (kndL T n tk E sl sd) else .inl (1, tk.2.2.1)
def cPp (S : List (Nat × Nat)) (M : zM) (T : Nat → Nat) (n t : Nat) (tk : zTk) (E : zEn) (sl sd : Bool) (ln : Nat) : Prop := cFb S M.2.2 t ∧ cTx S M.2.2 M.1 T n ∧ cTk M.1 tk ∧ cDr M.1 t E ∧ M.1 3 4 = bI sl ∧ M.1 3 5 = bI sd ∧ M.1 3 9 = nI (eK E) ∧ M.1 t 0 = nI ln ∧ M.1 3 2 = 0
def cPq (t x y : Nat) : Prop := (x = 3 ∧ 2 ≤ y) ∨ (x = 4 ∧ 3 ≤ y) ∨ x = 42 ∨ (t ≤ x ∧ x ≤ t + 31)
def cKr (S : List (Nat × Nat)) (T : Nat → Nat) (n t ln : Nat) (M0 : zM) (r : zLr) (v : Int32) (M' : zM) : Prop := M'.2.2 = M0.2.2 ∧ (∀ x y, ¬ cPq t x y → M'.1 x y = M0.1 x y) ∧ (∀ f p, r = .inl (f, p) → v = 0 ∧ M'.1 3 2 = nI f ∧ M'.1 3 3 = nI p) ∧ (∀ tk E sl sd, r = .inr (tk, E, sl, sd) → v = 1 ∧ cPp S M' T n t tk E sl sd ln)
theorem lv_43 {t : Nat} {E : zEn} {x y : Nat} (ht : t = 43 ∨ t = 75) (h : cLv t E x y) : t ≤ x ∧ x ≤ t + 31 := by unfold cLv at h; omega
theorem cPp_cg {S : List (Nat × Nat)} {M M' : zM} {T : Nat → Nat} {n t : Nat} {tk tk' : zTk} {E : zEn} {sl sd : Bool} {ln : Nat} (h : cPp S M T n t tk E sl sd ln) (h1 : M'.2.2 = M.2.2) (h2 : ∀ x y, ¬ q43 x y → M'.1 x y = M.1 x y) (h3 : cTk M'.1 tk') : cPp S M' T n t tk' E sl sd ln := by
  obtain ⟨a, b, c, d, e, f, g, i, j⟩ := h
  have ht := a.2.2.1
  exact ⟨h1.symm ▸ a, h1.symm ▸ cTx_cg (fun x y q _ _ => h2 x y q) b, h3, cDr_cg (fun x y q => h2 x y (by have := lv_43 ht q; unfold q43; omega)) d, (h2 _ _ (by unfold q43; omega)).trans e, (h2 _ _ (by unfold q43; omega)).trans f, (h2 _ _ (by unfold q43; omega)).trans g, (h2 _ _ (by unfold q43; omega)).trans i, (h2 _ _ (by unfold q43; omega)).trans j⟩
theorem cPp_nx {S : List (Nat × Nat)} {M : zM} {T : Nat → Nat} {n t : Nat} {tk : zTk} {E : zEn} {sl sd : Bool} {ln : Nat} (h : cPp S M T n t tk E sl sd ln) (ho : tkOk n 0 tk) : ∃ M', gX9_next S 4 M = some M' ∧ M'.2.2 = M.2.2 ∧ (∀ x y, ¬ q43 x y → M'.1 x y = M.1 x y) ∧ cPp S M' T n t (tokS T n tk.2.2.2) E sl sd ln := by
  obtain ⟨M', e1, e2, e3, e4⟩ := c_next h.2.1 ho.1.2.2.2.2 h.2.2.1.1
  exact ⟨M', e1, e2, e3, cPp_cg h e2 e3 e4⟩
theorem cPp_tk {S : List (Nat × Nat)} {M : zM} {T : Nat → Nat} {n t : Nat} {tk : zTk} {E : zEn} {sl sd : Bool} {ln : Nat} (h : cPp S M T n t tk E sl sd ln) (ho : tkOk n 0 tk) (hk : tk.1 = 2 ∨ tk.1 = 4) : ∃ M', gX3_taken S 3 M = some (nI tk.2.1, M') ∧ M'.2.2 = M.2.2 ∧ (∀ x y, ¬ q43 x y → M'.1 x y = M.1 x y) ∧ cPp S M' T n t (tokS T n tk.2.2.2) E sl sd ln := by
  obtain ⟨M', e1, e2⟩ := cPp_nx h ho
  have P := cP h.1.1 h.1.2.1
  have v := h.2.2.1.2.2.2 (by omega)
  refine ⟨M', ?_, e2⟩
  simp (disch := first | omega | simp only [qI2, qL2, qC2, qF2]) only [gX3_taken, ↓P, v, ↓bind_of e1]
theorem cPp_wr {S : List (Nat × Nat)} {M : zM} {T : Nat → Nat} {n t x y : Nat} {tk : zTk} {E : zEn} {sl sd : Bool} {ln : Nat} {v : Int32} (h : cPp S M T n t tk E sl sd ln) (hx : t < x ∧ x ≤ t + 31) (hl : ¬ cLv t E x y) : cPp S (zsI M x y v) T n t tk E sl sd ln := by
  obtain ⟨a, b, ⟨c1, c2, c3, c4⟩, d, e, f, g, i, j⟩ := h
  have ht := a.2.2.1
  exact ⟨a, cTx_cg (fun a b _ _ _ => zsI_ne (by omega)) b, ⟨(zsI_ne (by omega)).trans c1, (zsI_ne (by omega)).trans c2, (zsI_ne (by omega)).trans c3, fun q => (zsI_ne (by omega)).trans (c4 q)⟩, cDr_cg (fun a b q => zsI_ne (by
    by_cases e1 : a = x
    · by_cases e2 : b = y
      · subst e1 e2; exact absurd q hl
      · exact Or.inr e2
    · exact Or.inl e1)) d, (zsI_ne (by omega)).trans e, (zsI_ne (by omega)).trans f, (zsI_ne (by omega)).trans g, (zsI_ne (by omega)).trans i, (zsI_ne (by omega)).trans j⟩
theorem nxk_ok {T : Nat → Nat} {n : Nat} {tk : zTk} (hn : n ≤ 700) (h : tkOk n 0 tk) : ∀ k, tkOk n 0 (nxk T n k tk)
  | 0 => h
  | k + 1 => tkOk_0 (tokS_ok (nxk_ok hn h k).1.2.2.2.2 hn)
section CL
variable {S : List (Nat × Nat)} {M : zM} {T : Nat → Nat} {n t : Nat} {tk : zTk} {E : zEn} {sl sd : Bool} {ln : Nat}
theorem c_nameT (h : cPp S M T n t tk E sl sd ln) (wE : wfE E) (v : Nat) : gX10_tradeNamed S t (nI v) M = some (oI (fnd (eTn E) (nI v) (eT E) 0)) := by
  obtain ⟨⟨hS, hR, ht, h31⟩, -, -, ⟨d0, d1, -⟩, -⟩ := h
  have hT := pTs_of hS hR t (Or.inr ht)
  have F := tG hT
  have hr := row_of hS hR (t + 1) 6 (by rcases ht with rfl | rfl <;> decide)
  have fi := e_find (S := S) (M := M) (r := t + 1) (m := 6) (n := eT E) (v := nI v) hr wE.1
  have g1 : M.1 t 1 = nI (eT E) := d0.1
  simp (disch := first | omega | simp only [qI2, qL2, qC2, qF2]) only [gX10_tradeNamed, ↓F, g1, ↓bind_of fi]
  congr 2
  exact fnd_cg (fun j _ h => (d1 j (by omega)).1)
theorem c_nameW (h : cPp S M T n t tk E sl sd ln) (wE : wfE E) (v : Nat) : gX10_workNamed S t (nI v) M = some (oI (fnd (eWn E) (nI v) (eW E) 0)) := by
  obtain ⟨⟨hS, hR, ht, h31⟩, -, -, ⟨d0, d1, d2, d3, d4, -⟩, -⟩ := h
  have hT := pTs_of hS hR t (Or.inr ht)
  have F := tG hT
  have hr := row_of hS hR (t + 13) 5 (by rcases ht with rfl | rfl <;> decide)
  have fi := e_find (S := S) (M := M) (r := t + 13) (m := 5) (n := eW E) (v := nI v) hr wE.2.2.2.1
  have g1 : M.1 t 10 = nI (eW E) := d0.2.2.2.1
  simp (disch := first | omega | simp only [qI2, qL2, qC2, qF2]) only [gX10_workNamed, ↓F, g1, ↓bind_of fi]
  congr 2
  exact fnd_cg (fun j _ h => (d4 j (by omega)).1)
theorem fnd_m1 {f : Nat → Int32} {v : Int32} {k : Nat} (h : k < 100) : (oI (fnd f v k 0) = -1 ↔ fnd f v k 0 = none) := oI_none (fun t ht => by have := (fnd_some ht).2.1; omega)
theorem c_new0 (h : cPp S M T n t tk E sl sd ln) (ho : tkOk n 0 tk) (wE : wfE E) : gX3_isNewName S 3 0 M = some (if nwF (nmT E tk) tk = 0 then (1, M) else (0, fM M (nwF (nmT E tk) tk) tk.2.2.1)) := by
  obtain ⟨⟨hS, hR, ht, h31⟩, -, ⟨k1, k2, k3, k4⟩, hd, -⟩ := id h
  have P := cP hS hR
  have gD : ∀ (ρ : Type) (M' : zM) (f : Nat → Option ρ), M'.2.2 = M.2.2 → zgR S M' 3 3 10 1 f = f t := fun ρ M' f h => zgR_of ((hS 3 (by decide)).trans rfl) h31 M' f h
  have f1 := c_fails (S := S) (M := M) (p := tk.2.2.1) (f := 1) hS hR k2
  have f3 := c_fails (S := S) (M := M) (p := tk.2.2.1) (f := 3) hS hR k2
  have hrc : ∀ (ρ : Type) (o : Option ρ), zrc S t 10 18 o = o := fun ρ o => zrc_ok (pTs_of hS hR t (Or.inr ht)).1
  unfold nwF
  by_cases c2 : tk.1 = 2
  · have c2' : nI tk.1 = 2 := by rw [c2]; rfl
    have v := k4 (Or.inl c2)
    have nm := c_nameT h wE tk.2.1
    have iff := fnd_m1 (f := eTn E) (v := nI tk.2.1) (k := eT E) (by have := wE.1; omega)
    rw [if_pos c2]
    cases o : nmT E tk with
    | none =>
      have z : oI (fnd (eTn E) (nI tk.2.1) (eT E) 0) = -1 := iff.2 o
      rw [z] at nm
      simp (disch := first | omega | simp only [qI2, qL2, qC2, qF2]) only [gX3_isNewName, ↓P, k3, if_pos c2', v, if_true, ↓gD, ↓hrc, ↓bind_of nm, gX3_isNewName_48]
    | some j =>
      have z : ¬ oI (fnd (eTn E) (nI tk.2.1) (eT E) 0) = -1 := fun e => by
        have o' : fnd (eTn E) (nI tk.2.1) (eT E) 0 = some j := o
        rw [iff.1 e] at o'; cases o'
      simp (disch := first | omega | simp only [qI2, qL2, qC2, qF2]) only [gX3_isNewName, ↓P, k3, if_pos c2', v, if_true, ↓gD, ↓hrc, ↓bind_of nm, gX3_isNewName_48, if_neg z, ↓zb2_of f3]
      rfl
  · have c2' : ¬ nI tk.1 = 2 := fun e => c2 ((nI_eq (b := 2) (by have := ho.1.1; omega) (by decide)).1 e)
    rw [if_neg c2]
    simp (disch := first | omega | simp only [qI2, qL2, qC2, qF2]) only [gX3_isNewName, ↓P, k3, if_neg c2', ↓zb2_of f1, zbo0]
    rfl
theorem c_new3 (h : cPp S M T n t tk E sl sd ln) (ho : tkOk n 0 tk) (wE : wfE E) : gX3_isNewName S 3 3 M = some (if nwF (nmW E tk) tk = 0 then (1, M) else (0, fM M (nwF (nmW E tk) tk) tk.2.2.1)) := by
  obtain ⟨⟨hS, hR, ht, h31⟩, -, ⟨k1, k2, k3, k4⟩, hd, -⟩ := id h
  have P := cP hS hR
  have gD : ∀ (ρ : Type) (M' : zM) (f : Nat → Option ρ), M'.2.2 = M.2.2 → zgR S M' 3 3 10 1 f = f t := fun ρ M' f h => zgR_of ((hS 3 (by decide)).trans rfl) h31 M' f h
  have f1 := c_fails (S := S) (M := M) (p := tk.2.2.1) (f := 1) hS hR k2
  have f3 := c_fails (S := S) (M := M) (p := tk.2.2.1) (f := 3) hS hR k2
  have hrc : ∀ (ρ : Type) (o : Option ρ), zrc S t 10 18 o = o := fun ρ o => zrc_ok (pTs_of hS hR t (Or.inr ht)).1
  have n30 : ¬ (3 : Int32) = 0 := by decide
  unfold nwF
  by_cases c2 : tk.1 = 2
  · have c2' : nI tk.1 = 2 := by rw [c2]; rfl
    have v := k4 (Or.inl c2)
    have nm := c_nameW h wE tk.2.1
    have iff := fnd_m1 (f := eWn E) (v := nI tk.2.1) (k := eW E) (by have := wE.2.2.2.1; omega)
    rw [if_pos c2]
    cases o : nmW E tk with
    | none =>
      have z : oI (fnd (eWn E) (nI tk.2.1) (eW E) 0) = -1 := iff.2 o
      rw [z] at nm
      simp (disch := first | omega | simp only [qI2, qL2, qC2, qF2]) only [gX3_isNewName, ↓P, k3, if_pos c2', v, if_neg n30, ↓gD, ↓hrc, ↓bind_of nm, gX3_isNewName_48, if_true]
    | some j =>
      have z : ¬ oI (fnd (eWn E) (nI tk.2.1) (eW E) 0) = -1 := fun e => by
        have o' : fnd (eWn E) (nI tk.2.1) (eW E) 0 = some j := o
        rw [iff.1 e] at o'; cases o'
      simp (disch := first | omega | simp only [qI2, qL2, qC2, qF2]) only [gX3_isNewName, ↓P, k3, if_pos c2', v, if_neg n30, ↓gD, ↓hrc, ↓bind_of nm, gX3_isNewName_48, if_neg z, ↓zb2_of f3, if_true]
      rfl
  · have c2' : ¬ nI tk.1 = 2 := fun e => c2 ((nI_eq (b := 2) (by have := ho.1.1; omega) (by decide)).1 e)
    rw [if_neg c2]
    simp (disch := first | omega | simp only [qI2, qL2, qC2, qF2]) only [gX3_isNewName, ↓P, k3, if_neg c2', ↓zb2_of f1, zbo0]
    rfl
theorem c_isTr (h : cPp S M T n t tk E sl sd ln) (ho : tkOk n 0 tk) (wE : wfE E) : gX3_isTrade S 3 M = some (if trF (nmT E tk) tk = 0 then (1, M) else (0, fM M (trF (nmT E tk) tk) tk.2.2.1)) := by
  obtain ⟨⟨hS, hR, ht, h31⟩, -, ⟨k1, k2, k3, k4⟩, hd, -⟩ := id h
  have P := cP hS hR
  have gD : ∀ (ρ : Type) (M' : zM) (f : Nat → Option ρ), M'.2.2 = M.2.2 → zgR S M' 3 3 10 1 f = f t := fun ρ M' f h => zgR_of ((hS 3 (by decide)).trans rfl) h31 M' f h
  have f1 := c_fails (S := S) (M := M) (p := tk.2.2.1) (f := 1) hS hR k2
  have f4 := c_fails (S := S) (M := M) (p := tk.2.2.1) (f := 4) hS hR k2
  have hrc : ∀ (ρ : Type) (o : Option ρ), zrc S t 10 18 o = o := fun ρ o => zrc_ok (pTs_of hS hR t (Or.inr ht)).1
  unfold trF
  by_cases c2 : tk.1 = 2
  · have c2' : nI tk.1 = 2 := by rw [c2]; rfl
    have v := k4 (Or.inl c2)
    have nm := c_nameT h wE tk.2.1
    have iff := fnd_m1 (f := eTn E) (v := nI tk.2.1) (k := eT E) (by have := wE.1; omega)
    rw [if_pos c2]
    cases o : nmT E tk with
    | none =>
      have z : oI (fnd (eTn E) (nI tk.2.1) (eT E) 0) = -1 := iff.2 o
      rw [z] at nm
      simp (disch := first | omega | simp only [qI2, qL2, qC2, qF2]) only [gX3_isTrade, ↓P, k3, if_pos c2', v, ↓gD, ↓hrc, ↓bind_of nm, if_true, ↓zb2_of f4]
      rfl
    | some j =>
      have z : ¬ oI (fnd (eTn E) (nI tk.2.1) (eT E) 0) = -1 := fun e => by
        have o' : fnd (eTn E) (nI tk.2.1) (eT E) 0 = some j := o
        rw [iff.1 e] at o'; cases o'
      simp (disch := first | omega | simp only [qI2, qL2, qC2, qF2]) only [gX3_isTrade, ↓P, k3, if_pos c2', v, ↓gD, ↓hrc, ↓bind_of nm, if_neg z, if_true]
  · have c2' : ¬ nI tk.1 = 2 := fun e => c2 ((nI_eq (b := 2) (by have := ho.1.1; omega) (by decide)).1 e)
    rw [if_neg c2]
    simp (disch := first | omega | simp only [qI2, qL2, qC2, qF2]) only [gX3_isTrade, ↓P, k3, if_neg c2', ↓zb2_of f1, zbo0]
    rfl
theorem fM_kr {M0 : zM} {c p : Nat} (h1 : M.2.2 = M0.2.2) (h2 : ∀ x y, ¬ cPq t x y → M.1 x y = M0.1 x y) : cKr S T n t ln M0 (.inl (c, p)) 0 (fM M c p) := ⟨h1, fun x y q => by
  unfold fM
  rw [zsI_ne (by unfold cPq at q; omega), zsI_ne (by unfold cPq at q; omega)]
  exact h2 x y q, fun f p' e => by
  cases e
  exact ⟨rfl, by unfold fM; rw [zsI_ne (by omega), zsI_at], zsI_at _ _ _ _⟩, fun tk E sl sd e => by cases e⟩
theorem nb_4 {lo hi : Nat} (h : nbF lo hi tk = 0) : tk.1 = 4 ∧ lo ≤ tk.2.1 ∧ tk.2.1 ≤ hi := by
  unfold nbF at h
  by_cases a : tk.1 = 4
  · rw [if_pos a] at h
    by_cases b : tk.2.1 < lo
    · rw [if_pos b] at h; omega
    · rw [if_neg b] at h
      by_cases c : tk.2.1 ≤ hi
      · exact ⟨a, by omega, c⟩
      · rw [if_neg c] at h; omega
  · rw [if_neg a] at h; omega
theorem c_trades (hn : n ≤ 700) (h : cPp S M T n t tk E sl sd ln) (ho : tkOk n 0 tk) (wE : wfE E) : ∃ (v : Int32) (M' : zM), gX3_trades S 3 M = some (v, M') ∧ cKr S T n t ln M (lnT T n tk E sl sd) v M' := by
  obtain ⟨⟨hS, hR, ht, h31⟩, -, hk, hd, -⟩ := id h
  have hT6 := wE.1
  have P := cP hS hR
  have hT := pTs_of hS hR t (Or.inr ht)
  have F := tG hT
  have gD : ∀ (ρ : Type) (M' : zM) (f : Nat → Option ρ), M'.2.2 = M.2.2 → zgR S M' 3 3 10 1 f = f t := fun ρ M' f h => zgR_of ((hS 3 (by decide)).trans rfl) h31 M' f h
  have n10 : ¬ (1 : Int32) = 0 := by decide
  have g1 : M.1 t 1 = nI (eT E) := hd.1.1
  unfold lnT
  by_cases c6 : 6 ≤ eT E
  · have c6' : ¬ eT E < 6 := by omega
    have f2 := c_fails (S := S) (M := M) (p := tk.2.2.1) (f := 2) hS hR hk.2.1
    rw [if_pos c6]
    refine ⟨0, fM M 2 tk.2.2.1, ?_, fM_kr rfl (fun _ _ _ => rfl)⟩
    simp (disch := first | omega | simp only [qI2, qL2, qC2, qF2]) only [gX3_trades, ↓gD, ↓F, g1, li6, nI_ltI, if_neg c6', ↓P, ↓zb2_of f2, zbo0]
    rfl
  · have c6' : eT E < 6 := by omega
    rw [if_neg c6]
    obtain ⟨M1, a1, a2, a3, a4⟩ := cPp_nx h ho
    have o1 := nxk_ok (T := T) hn ho 1
    have o2 := nxk_ok (T := T) hn ho 2
    have o3 := nxk_ok (T := T) hn ho 3
    have ne := c_new0 (tk := nxk T n 1 tk) a4 o1 wE
    have F1 : ∀ x y, ¬ cPq t x y → M1.1 x y = M.1 x y := fun x y q => a3 x y (by unfold cPq at q; unfold q43; omega)
    generalize hc1 : nwF (nmT E (nxk T n 1 tk)) (nxk T n 1 tk) = q1 at ne
    unfold chk
    by_cases e1 : q1 = 0
    rotate_left
    · rw [if_neg e1] at ne ⊢
      refine ⟨0, fM M1 q1 (nxk T n 1 tk).2.2.1, ?_, fM_kr a2 F1⟩
      simp (disch := first | omega | simp only [qI2, a2]) only [gX3_trades, ↓gD, ↓F, g1, li6, nI_ltI, if_pos c6', ↓P, ↓bind_of a1, ↓zb2_of ne, if_true]
    · rw [if_pos e1] at ne ⊢
      have k2 : (nxk T n 1 tk).1 = 2 := by
        rw [e1] at hc1
        unfold nwF at hc1
        by_cases z : (nxk T n 1 tk).1 = 2
        · exact z
        · rw [if_neg z] at hc1; omega
      obtain ⟨M2, b1, b2, b3, b4⟩ := cPp_tk (tk := nxk T n 1 tk) a4 o1 (Or.inl k2)
      have r2 : M2.2.2 = M.2.2 := b2.trans a2
      have g1' : M1.1 t 1 = nI (eT E) := a4.2.2.2.1.1.1
      have b5 := cPp_wr (x := t + 2) (y := eT E) (v := nI (nxk T n 1 tk).2.1) b4 (by omega) (by unfold cLv; omega)
      have nb := c_isNum (S := S) (M := zsI M2 (t + 2) (eT E) (nI (nxk T n 1 tk).2.1)) (lo := 0) (hi := 23) (tk := nxk T n 2 tk) hS (by rw [qI2, r2]; exact hR) b5.2.2.1 o2 (by decide) (by decide)
      have nb' : gX3_isNumber S 3 0 23 (zsI M2 (t + 2) (eT E) (nI (nxk T n 1 tk).2.1)) = _ := nb
      have F2 : ∀ x y, ¬ cPq t x y → (zsI M2 (t + 2) (eT E) (nI (nxk T n 1 tk).2.1)).1 x y = M.1 x y := fun x y q => by
        rw [zsI_ne (by unfold cPq at q; omega), b3 x y (by unfold cPq at q; unfold q43; omega)]
        exact F1 x y q
      generalize hc2 : nbF 0 23 (nxk T n 2 tk) = q2 at nb'
      by_cases e2 : q2 = 0
      rotate_left
      · rw [if_neg e2] at nb' ⊢
        refine ⟨0, fM (zsI M2 (t + 2) (eT E) (nI (nxk T n 1 tk).2.1)) q2 (nxk T n 2 tk).2.2.1, ?_, fM_kr r2 F2⟩
        simp (disch := first | omega | simp only [qI2, a2, r2]) only [gX3_trades, ↓gD, ↓F, g1, li6, nI_ltI, if_pos c6', ↓P, ↓bind_of a1, ↓zb2_of ne, if_neg n10, g1', ↓zb2_of b1, ↓zb2_of nb', if_true]
      · rw [if_pos e2] at nb' ⊢
        rw [e2] at hc2
        have k4 := nb_4 hc2
        obtain ⟨M3, d1, d2, d3, d4⟩ := cPp_tk (tk := nxk T n 2 tk) b5 o2 (Or.inr k4.1)
        have r3 : M3.2.2 = M.2.2 := d2.trans r2
        have d5 := cPp_wr (x := t + 4) (y := eT E) (v := nI (nxk T n 2 tk).2.1) d4 (by omega) (by unfold cLv; omega)
        have g2' : (zsI M2 (t + 2) (eT E) (nI (nxk T n 1 tk).2.1)).1 t 1 = nI (eT E) := b5.2.2.2.1.1.1
        have nc := c_isNum (S := S) (M := zsI M3 (t + 4) (eT E) (nI (nxk T n 2 tk).2.1)) (lo := 0) (hi := 9) (tk := nxk T n 3 tk) hS (by rw [qI2, r3]; exact hR) d5.2.2.1 o3 (by decide) (by decide)
        have nc' : gX3_isNumber S 3 0 9 (zsI M3 (t + 4) (eT E) (nI (nxk T n 2 tk).2.1)) = _ := nc
        have F3 : ∀ x y, ¬ cPq t x y → (zsI M3 (t + 4) (eT E) (nI (nxk T n 2 tk).2.1)).1 x y = M.1 x y := fun x y q => by
          rw [zsI_ne (by unfold cPq at q; omega), d3 x y (by unfold cPq at q; unfold q43; omega)]
          exact F2 x y q
        generalize hc3 : nbF 0 9 (nxk T n 3 tk) = q3 at nc'
        by_cases e3 : q3 = 0
        rotate_left
        · rw [if_neg e3] at nc' ⊢
          refine ⟨0, fM (zsI M3 (t + 4) (eT E) (nI (nxk T n 2 tk).2.1)) q3 (nxk T n 3 tk).2.2.1, ?_, fM_kr r3 F3⟩
          simp (disch := first | omega | simp only [qI2, a2, r2, r3]) only [gX3_trades, ↓gD, ↓F, g1, li6, nI_ltI, if_pos c6', ↓P, ↓bind_of a1, ↓zb2_of ne, if_neg n10, g1', ↓zb2_of b1, ↓zb2_of nb', g2', ↓zb2_of d1, ↓zb2_of nc', if_true]
        · rw [if_pos e3] at nc' ⊢
          rw [e3] at hc3
          have k5 := nb_4 hc3
          obtain ⟨M4, i1, i2, i3, i4⟩ := cPp_tk (tk := nxk T n 3 tk) d5 o3 (Or.inr k5.1)
          have r4 : M4.2.2 = M.2.2 := i2.trans r3
          have g3' : (zsI M3 (t + 4) (eT E) (nI (nxk T n 2 tk).2.1)).1 t 1 = nI (eT E) := d5.2.2.2.1.1.1
          have g4' : (zsI M4 (t + 6) (eT E) (nI (nxk T n 3 tk).2.1)).1 t 1 = nI (eT E) := by rw [zsI_ne (by omega)]; exact i4.2.2.2.1.1.1
          refine ⟨1, zsI (zsI M4 (t + 6) (eT E) (nI (nxk T n 3 tk).2.1)) t 1 (nI (eT E + 1)), ?_, r4, fun x y q => ?_, fun f p e => (by cases e), fun tk' E' sl' sd' e => ?_⟩
          · simp (disch := first | omega | simp only [qI2, a2, r2, r3, r4]) only [gX3_trades, ↓gD, ↓F, g1, li6, nI_ltI, if_pos c6', ↓P, ↓bind_of a1, ↓zb2_of ne, if_neg n10, g1', ↓zb2_of b1, ↓zb2_of nb', g2', ↓zb2_of d1, ↓zb2_of nc', g3', ↓zb2_of i1, g4', nI_1]
          · rw [zsI_ne (by unfold cPq at q; omega), zsI_ne (by unfold cPq at q; omega), i3 x y (by unfold cPq at q; unfold q43; omega)]
            exact F3 x y q
          · cases e
            obtain ⟨p1, p2, ⟨p3, p4, p5, p6⟩, p7, p8, p9, p10, p11, p12⟩ := i4
            refine ⟨rfl, p1, cTx_cg (fun a b _ _ _ => by rw [zsI_ne (by omega), zsI_ne (by omega)]) p2, ⟨by rw [zsI_ne (by omega), zsI_ne (by omega)]; exact p3, by rw [zsI_ne (by omega), zsI_ne (by omega)]; exact p4, by rw [zsI_ne (by omega), zsI_ne (by omega)]; exact p5, fun q => by rw [zsI_ne (by omega), zsI_ne (by omega)]; exact p6 q⟩, cDr_T1 p7 (fun x y q1 q2 => by rw [zsI_ne (by omega), zsI_ne (by unfold cLv at q1; omega)]) (zsI_at _ _ _ _) ?_ ?_ (by rw [zsI_ne (by omega), zsI_at]), by rw [zsI_ne (by omega), zsI_ne (by omega)]; exact p8, by rw [zsI_ne (by omega), zsI_ne (by omega)]; exact p9, by rw [zsI_ne (by omega), zsI_ne (by omega)]; exact p10, by rw [zsI_ne (by omega), zsI_ne (by omega)]; exact p11, by rw [zsI_ne (by omega), zsI_ne (by omega)]; exact p12⟩
            · rw [zsI_ne (by omega), zsI_ne (by omega), i3 _ _ (by unfold q43; omega), zsI_ne (by omega), d3 _ _ (by unfold q43; omega), zsI_at]
            · rw [zsI_ne (by omega), zsI_ne (by omega), i3 _ _ (by unfold q43; omega), zsI_at]
end CL
