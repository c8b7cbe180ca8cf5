/-! pure part 76: lines: the class reads a text -/
def readS (T : Nat → Nat) (n : Nat) : Nat → zTk → zEn → Bool → Bool → Nat → Option ((Nat × Nat) ⊕ (zEn × Nat))
  | 0, _, _, _, _, _ => none
  | k + 1, tk, E, sl, sd, ln => if tk.1 = 0 then some (.inr (E, ln)) else match lineS T n tk E sl sd with | .inl e => some (.inl e) | .inr q => readS T n k q.1 q.2.1 q.2.2.1 q.2.2.2 (ln + 1)
theorem readS_some {T : Nat → Nat} {n : Nat} (hn : n ≤ 700) : ∀ (k : Nat) (tk : zTk) (E : zEn) (sl sd : Bool) (ln : Nat), tkOk n 0 tk → wfE E → n < tk.2.2.1 + k → ∃ r, readS T n k tk E sl sd ln = some r
  | 0, tk, E, sl, sd, ln, ho, wE, h => by
    have h1 := ho.1.2.2.2.1
    have h2 := ho.1.2.2.2.2
    omega
  | k + 1, tk, E, sl, sd, ln, ho, wE, h => by
    show ∃ r, (if tk.1 = 0 then some (.inr (E, ln)) else match lineS T n tk E sl sd with | .inl e => some (.inl e) | .inr q => readS T n k q.1 q.2.1 q.2.2.1 q.2.2.2 (ln + 1)) = some r
    by_cases c0 : tk.1 = 0
    · rw [if_pos c0]; exact ⟨_, rfl⟩
    · rw [if_neg c0]
      have ok := ok_line (T := T) (sl := sl) (sd := sd) hn ho wE
      cases q : lineS T n tk E sl sd with
      | inl e => exact ⟨_, rfl⟩
      | inr x =>
        obtain ⟨tk', E', sl', sd'⟩ := x
        obtain ⟨a, b⟩ := ok tk' E' sl' sd' q
        have p := ho.2.1 c0
        exact readS_some hn k tk' E' sl' sd' (ln + 1) (tkOk_w a (Nat.zero_le _)) b (by have := a.1.2.2.1; omega)
section CL
variable {S : List (Nat × Nat)} {M : zM} {T : Nat → Nat} {n t : Nat} {tk : zTk} {E : zEn} {sl sd : Bool} {ln : Nat}
theorem c_line (hn : n ≤ 700) (h : cPp S M T n t tk E sl sd ln) (ho : tkOk n 0 tk) (wE : wfE E) : ∃ (v : Int32) (M' : zM), gX3_line S 3 M = some (v, M') ∧ (v = 0 ∨ v = 1) ∧ cKr S T n t ln M (lineS T n tk E sl sd) v M' := by
  obtain ⟨⟨hS, hR, ht, h31⟩, -, hk, hd, -⟩ := id h
  have P := cP hS hR
  have k3 : M.1 4 5 = nI tk.1 := hk.2.2.1
  have n10 : ¬ (1 : Int32) = 0 := by decide
  have hrc : ∀ (ρ : Type) (o : Option ρ), zrc S 3 3 10 o = o := fun ρ o => zrc_ok ((hS 3 (by decide)).trans rfl)
  have f1 := c_fails (S := S) (M := M) (p := tk.2.2.1) (f := 1) hS hR hk.2.1
  unfold lineS
  by_cases c3 : tk.1 = 3
  rotate_left
  · have c3' : ¬ nI tk.1 = 3 := fun e => c3 ((nI_eq (b := 3) (by have := ho.1.1; omega) (by decide)).1 e)
    rw [if_neg (fun e => c3 e.1)]
    refine ⟨0, fM M 1 tk.2.2.1, ?_, Or.inl rfl, fM_kr rfl (fun _ _ _ => rfl)⟩
    simp (disch := first | omega | simp only [qI2, qL2, qC2, qF2]) only [gX3_line, ↓P, k3, if_neg c3', ↓zb2_of f1, zbo0]
    rfl
  have c3' : nI tk.1 = 3 := by rw [c3]; rfl
  have v : M.1 4 6 = nI tk.2.1 := hk.2.2.2 (Or.inr (Or.inl c3))
  have v20 := (ho.2.2.2.1 c3).1
  have e0 : nI tk.2.1 = (0 : Int32) ↔ tk.2.1 = 0 := nI_eq (b := 0) (by omega) (by decide)
  have e1 : nI tk.2.1 = (1 : Int32) ↔ tk.2.1 = 1 := nI_eq (b := 1) (by omega) (by decide)
  have e2 : nI tk.2.1 = (2 : Int32) ↔ tk.2.1 = 2 := nI_eq (b := 2) (by omega) (by decide)
  have e3 : nI tk.2.1 = (3 : Int32) ↔ tk.2.1 = 3 := nI_eq (b := 3) (by omega) (by decide)
  have e4 : nI tk.2.1 = (4 : Int32) ↔ tk.2.1 = 4 := nI_eq (b := 4) (by omega) (by decide)
  have e5 : nI tk.2.1 = (5 : Int32) ↔ tk.2.1 = 5 := nI_eq (b := 5) (by omega) (by decide)
  have e6 : nI tk.2.1 = (6 : Int32) ↔ tk.2.1 = 6 := nI_eq (b := 6) (by omega) (by decide)
  by_cases c6 : tk.2.1 ≤ 6
  rotate_left
  · rw [if_neg (fun e => c6 e.2)]
    refine ⟨0, fM M 1 tk.2.2.1, ?_, Or.inl rfl, fM_kr rfl (fun _ _ _ => rfl)⟩
    simp (disch := first | omega | simp only [qI2, qL2, qC2, qF2]) only [gX3_line, ↓P, k3, if_pos c3', v, if_neg (fun e => (show ¬ tk.2.1 = 0 by omega) (e0.1 e)), if_neg (fun e => (show ¬ tk.2.1 = 1 by omega) (e1.1 e)), if_neg (fun e => (show ¬ tk.2.1 = 2 by omega) (e2.1 e)), if_neg (fun e => (show ¬ tk.2.1 = 3 by omega) (e3.1 e)), if_neg (fun e => (show ¬ tk.2.1 = 4 by omega) (e4.1 e)), if_neg (fun e => (show ¬ tk.2.1 = 5 by omega) (e5.1 e)), if_neg (fun e => (show ¬ tk.2.1 = 6 by omega) (e6.1 e)), ↓zb2_of f1, zbo0]
    rfl
  rw [if_pos ⟨c3, c6⟩]
  have okk := ok_knd (T := T) (sl := sl) (sd := sd) hn ho wE
  have go : ∀ (g : zM → Option (Int32 × zM)), (∃ (v : Int32) (M' : zM), g M = some (v, M') ∧ cKr S T n t ln M (kndL T n tk E sl sd) v M') → gX3_line S 3 M = zb2 (g M) (fun v6 M7 => if v6 = 0 then some ((0 : Int32), M7) else zrc S 3 3 10 (zb2 (gX3_ends S 3 M7) (fun v8 M9 => if v8 = 0 then some ((0 : Int32), M9) else some ((1 : Int32), M9)))) → ∃ (v : Int32) (M' : zM), gX3_line S 3 M = some (v, M') ∧ (v = 0 ∨ v = 1) ∧ cKr S T n t ln M (finL T n (kndL T n tk E sl sd)) v M' := by
    intro g hg hgo
    obtain ⟨v1, M1, a1, a2, a3, a4, a5⟩ := hg
    rw [hgo, zb2_of a1]
    cases q : kndL T n tk E sl sd with
    | inl e =>
      obtain ⟨f, p⟩ := e
      obtain ⟨b1, b2, b3⟩ := a4 f p q
      subst b1
      refine ⟨0, M1, if_pos rfl, Or.inl rfl, a2, a3, fun f' p' e => ?_, fun tk E sl sd e => by cases e⟩
      have e' : (Sum.inl (f, p) : zLr) = .inl (f', p') := e
      cases e'
      exact ⟨rfl, b2, b3⟩
    | inr x =>
      obtain ⟨tk', E', sl', sd'⟩ := x
      obtain ⟨b1, b2⟩ := a5 tk' E' sl' sd' q
      subst b1
      obtain ⟨w1, w2⟩ := okk tk' E' sl' sd' q
      obtain ⟨v2, M2, d1, d2, d3⟩ := c_endsL hn b2 (tkOk_w w1 (Nat.zero_le _)) a2 a3
      refine ⟨v2, M2, ?_, d2, d3⟩
      rw [if_neg n10, hrc, zb2_of d1]
      rcases d2 with rfl | rfl
      · exact if_pos rfl
      · exact if_neg n10
  by_cases d0 : tk.2.1 = 0
  · refine go (gX3_trades S 3) ?_ ?_
    · have := c_trades hn h ho wE
      unfold kndL
      rw [if_pos d0]; exact this
    · simp (disch := first | omega | simp only [qI2, qL2, qC2, qF2]) only [gX3_line, ↓P, k3, if_pos c3', v, if_pos (e0.2 d0)]
  have m0 : ¬ nI tk.2.1 = (0 : Int32) := fun e => d0 (e0.1 e)
  by_cases d1 : tk.2.1 = 1
  · refine go (gX3_turns S 3) ?_ ?_
    · have := c_turns hn h ho wE
      unfold kndL
      rw [if_neg d0, if_pos d1]; exact this
    · simp (disch := first | omega | simp only [qI2, qL2, qC2, qF2]) only [gX3_line, ↓P, k3, if_pos c3', v, if_neg m0, if_pos (e1.2 d1)]
  have m1 : ¬ nI tk.2.1 = (1 : Int32) := fun e => d1 (e1.1 e)
  by_cases d2 : tk.2.1 = 2
  · refine go (gX3_claims S 3) ?_ ?_
    · have := c_claims hn h ho wE
      unfold kndL
      rw [if_neg d0, if_neg d1, if_pos d2]; exact this
    · simp (disch := first | omega | simp only [qI2, qL2, qC2, qF2]) only [gX3_line, ↓P, k3, if_pos c3', v, if_neg m0, if_neg m1, if_pos (e2.2 d2)]
  have m2 : ¬ nI tk.2.1 = (2 : Int32) := fun e => d2 (e2.1 e)
  by_cases d3 : tk.2.1 = 3
  · refine go (gX3_works S 3) ?_ ?_
    · have := c_works hn h ho wE
      unfold kndL
      rw [if_neg d0, if_neg d1, if_neg d2, if_pos d3]; exact this
    · simp (disch := first | omega | simp only [qI2, qL2, qC2, qF2]) only [gX3_line, ↓P, k3, if_pos c3', v, if_neg m0, if_neg m1, if_neg m2, if_pos (e3.2 d3)]
  have m3 : ¬ nI tk.2.1 = (3 : Int32) := fun e => d3 (e3.1 e)
  by_cases d4 : tk.2.1 = 4
  · refine go (gX3_slips S 3) ?_ ?_
    · have := c_slips hn h ho wE
      unfold kndL
      rw [if_neg d0, if_neg d1, if_neg d2, if_neg d3, if_pos d4]; exact this
    · simp (disch := first | omega | simp only [qI2, qL2, qC2, qF2]) only [gX3_line, ↓P, k3, if_pos c3', v, if_neg m0, if_neg m1, if_neg m2, if_neg m3, if_pos (e4.2 d4)]
  have m4 : ¬ nI tk.2.1 = (4 : Int32) := fun e => d4 (e4.1 e)
  by_cases d5 : tk.2.1 = 5
  · refine go (gX3_seeds S 3) ?_ ?_
    · have := c_seeds hn h ho wE
      unfold kndL
      rw [if_neg d0, if_neg d1, if_neg d2, if_neg d3, if_neg d4, if_pos d5]; exact this
    · simp (disch := first | omega | simp only [qI2, qL2, qC2, qF2]) only [gX3_line, ↓P, k3, if_pos c3', v, if_neg m0, if_neg m1, if_neg m2, if_neg m3, if_neg m4, if_pos (e5.2 d5)]
  have m5 : ¬ nI tk.2.1 = (5 : Int32) := fun e => d5 (e5.1 e)
  have d6 : tk.2.1 = 6 := by omega
  refine go (gX3_laws S 3) ?_ ?_
  · have := c_lawsL hn h ho (by omega) wE
    unfold kndL
    rw [if_neg d0, if_neg d1, if_neg d2, if_neg d3, if_neg d4, if_neg d5]; exact this
  · simp (disch := first | omega | simp only [qI2, qL2, qC2, qF2]) only [gX3_line, ↓P, k3, if_pos c3', v, if_neg m0, if_neg m1, if_neg m2, if_neg m3, if_neg m4, if_neg m5, if_pos (e6.2 d6)]
end CL
theorem cPp_ln {S : List (Nat × Nat)} {M : zM} {T : Nat → Nat} {n t : Nat} {tk : zTk} {E : zEn} {sl sd : Bool} {ln : Nat} (h : cPp S M T n t tk E sl sd ln) : cPp S (zsI M t 0 (nI (ln + 1))) T n t tk E sl sd (ln + 1) := by
  obtain ⟨a, b, ⟨c1, c2, c3, c4⟩, d, e, f, g, i, j⟩ := h
  have ht := a.2.2.1
  exact ⟨a, cTx_cg (fun a b _ _ _ => zsI_ne (by omega)) b, ⟨(zsI_ne (by omega)).trans c1, (zsI_ne (by omega)).trans c2, (zsI_ne (by omega)).trans c3, fun q => (zsI_ne (by omega)).trans (c4 q)⟩, cDr_cg (fun x y q => zsI_ne (by unfold cLv at q; omega)) d, (zsI_ne (by omega)).trans e, (zsI_ne (by omega)).trans f, (zsI_ne (by omega)).trans g, zsI_at _ _ _ _, (zsI_ne (by omega)).trans j⟩
theorem c_reads44 {S : List (Nat × Nat)} {T : Nat → Nat} {n t : Nat} (hn : n ≤ 700) : ∀ (k fu i : Nat) (M : zM) (tk : zTk) (E : zEn) (sl sd : Bool) (ln : Nat) (r : (Nat × Nat) ⊕ (zEn × Nat)), cPp S M T n t tk E sl sd ln → tkOk n 0 tk → wfE E → i ≤ tk.2.2.1 → k < fu → readS T n k tk E sl sd ln = some r →
    ∃ (v : Int32) (M' : zM), gX3_reads_44 S fu 3 (nI n) (nI i) M = some (v, M') ∧ M'.2.2 = M.2.2 ∧ (∀ x y, ¬ cPq t x y → M'.1 x y = M.1 x y) ∧ (∀ f p, r = .inl (f, p) → v = 0 ∧ M'.1 3 2 = nI f ∧ M'.1 3 3 = nI p) ∧ (∀ E' ln', r = .inr (E', ln') → v = 1 ∧ wfE E' ∧ cDr M'.1 t E' ∧ M'.1 t 0 = nI ln' ∧ M'.1 3 2 = 0) := by
  intro k
  induction k with
  | zero => intro fu i M tk E sl sd ln r _ _ _ _ _ h; cases h
  | succ k ih =>
    intro fu i M tk E sl sd ln r h ho wE hi hf hr
    obtain ⟨fu, rfl⟩ : ∃ f, fu = f + 1 := ⟨fu - 1, by omega⟩
    obtain ⟨⟨hS, hR, ht, h31⟩, -, hk, hd, h34, h35, h39, ht0, h32⟩ := id h
    have P := cP hS hR
    have k3 : M.1 4 5 = nI tk.1 := hk.2.2.1
    have n10 : ¬ (1 : Int32) = 0 := by decide
    have hr' : (if tk.1 = 0 then some (.inr (E, ln)) else match lineS T n tk E sl sd with | .inl e => some (.inl e) | .inr q => readS T n k q.1 q.2.1 q.2.2.1 q.2.2.2 (ln + 1)) = some r := hr
    have l1 := ho.1.2.2.2.1
    have l2 := ho.1.2.2.2.2
    by_cases c0 : tk.1 = 0
    · rw [if_pos c0] at hr'
      cases hr'
      refine ⟨1, M, ?_, rfl, fun _ _ _ => rfl, fun f p e => (by cases e), fun E' ln' e => ?_⟩
      · by_cases cn : n ≤ i
        · simp (disch := first | omega | simp only [qI2, qL2, qC2, qF2]) only [gX3_reads_44, nI_leI, if_pos cn]
        · have c0' : nI tk.1 = 0 := by rw [c0]; rfl
          simp (disch := first | omega | simp only [qI2, qL2, qC2, qF2]) only [gX3_reads_44, nI_leI, if_neg cn, ↓P, k3, if_pos c0']
      · cases e
        exact ⟨rfl, wE, hd, ht0, h32⟩
    · rw [if_neg c0] at hr'
      have p := ho.2.1 c0
      have cn : ¬ n ≤ i := by omega
      have c0' : ¬ nI tk.1 = 0 := fun e => c0 ((nI_0e (by have := ho.1.1; omega)).1 e)
      obtain ⟨v1, M1, a1, a0, a2, a3, a4, a5⟩ := c_line hn h ho wE
      have ok := ok_line (T := T) (sl := sl) (sd := sd) hn ho wE
      cases q : lineS T n tk E sl sd with
      | inl e =>
        rw [q] at hr'
        cases hr'
        obtain ⟨f, p'⟩ := e
        obtain ⟨b1, b2, b3⟩ := a4 f p' q
        subst b1
        refine ⟨0, M1, ?_, a2, a3, fun f' p'' e => ?_, fun E' ln' e => by cases e⟩
        · simp (disch := first | omega | simp only [qI2, qL2, qC2, qF2]) only [gX3_reads_44, nI_leI, if_neg cn, ↓P, k3, if_neg c0', ↓zb2_of a1, if_true]
        · cases e
          exact ⟨rfl, b2, b3⟩
      | inr x =>
        rw [q] at hr'
        obtain ⟨tk', E', sl', sd'⟩ := x
        obtain ⟨b1, b2⟩ := a5 tk' E' sl' sd' q
        subst b1
        obtain ⟨w1, w2⟩ := ok tk' E' sl' sd' q
        obtain ⟨v2, M2, d1, d2, d3, d4, d5⟩ := ih fu (i + 1) (zsI M1 t 0 (nI (ln + 1))) tk' E' sl' sd' (ln + 1) r (cPp_ln b2) (tkOk_w w1 (Nat.zero_le _)) w2 (by have := w1.1.2.2.1; omega) (by omega) hr'
        have r1 : M1.2.2 = M.2.2 := a2
        have hT1 := pTs_of hS (show pRf M1.2.2 by rw [r1]; exact hR) t (Or.inr ht)
        have F1 := tG hT1
        have gD : ∀ (ρ : Type) (f : Nat → Option ρ), zgR S M1 3 3 10 1 f = f t := fun ρ f => zgR_ok ((hS 3 (by decide)).trans rfl) (by rw [r1]; exact h31)
        have l0 : M1.1 t 0 = nI ln := b2.2.2.2.2.2.2.2.1
        refine ⟨v2, M2, ?_, d2.trans r1, fun x y z => ?_, d4, d5⟩
        · rw [← d1]
          simp (disch := first | omega | simp only [qI2, qL2, qC2, qF2]) only [gX3_reads_44, nI_leI, if_neg cn, ↓P, k3, if_neg c0', ↓zb2_of a1, if_neg n10, ↓gD, ↓F1, l0, nI_1]
        · rw [d3 x y z, zsI_ne (by unfold cPq at z; omega)]
          exact a3 x y z
