/-! pure part 66: formulas: the class's steps and loop -/
def tkOk (n a : Nat) (tk : zTk) : Prop := (tk.1 ≤ 8 ∧ tk.2.1 < 2 ^ 30 ∧ a ≤ tk.2.2.1 ∧ tk.2.2.1 ≤ tk.2.2.2 ∧ tk.2.2.2 ≤ n) ∧ (tk.1 ≠ 0 → tk.2.2.1 < n ∧ tk.2.2.1 < tk.2.2.2) ∧ (tk.1 = 8 → 3 ≤ tk.2.1 ∧ tk.2.1 ≤ 15) ∧ (tk.1 = 3 → tk.2.1 < 20 ∧ (tk.2.1 < 10 ∨ 12 < tk.2.1)) ∧ (tk.1 = 4 → tk.2.1 ≤ 1000000)
theorem nuS_le {T : Nat → Nat} : ∀ k i v, v ≤ 1000000 → nuS T k i v ≤ 1000000
  | 0, _, _, h => h
  | k + 1, i, v, _ => nuS_le k (i + 1) _ (Nat.min_le_left _ _)
theorem tkOk_mk {n a k v p e : Nat} (h1 : k ≤ 8) (h2 : v < 2 ^ 30) (h3 : a ≤ p) (h4 : p < n) (h5 : p < e) (h6 : e ≤ n) (h8 : k = 8 → 3 ≤ v ∧ v ≤ 15) (h9 : k = 3 → v < 20 ∧ (v < 10 ∨ 12 < v)) (h10 : k = 4 → v ≤ 1000000) : tkOk n a (k, v, p, e) := ⟨⟨h1, h2, h3, Nat.le_of_lt h5, h6⟩, fun _ => ⟨h4, h5⟩, h8, h9, h10⟩
theorem sgT_ok {n a c b p : Nat} (h3 : a ≤ p) (h4 : p < n) (hb : p + 1 = n → b = 0) : tkOk n a (sgT c b p) := by
  unfold sgT
  have s : ∀ k v, k ≤ 8 → v ≤ 15 → (k = 8 → 3 ≤ v) → (k = 3 → False) → tkOk n a (k, v, p, p + 1) := fun k v h1 h2 h5 h6 => tkOk_mk h1 (by omega) h3 h4 (by omega) (by omega) (fun h => ⟨h5 h, h2⟩) (fun h => (h6 h).elim) (fun h => by omega)
  have s2 : ∀ v, v ≤ 15 → 3 ≤ v → ¬ b = 0 → tkOk n a (8, v, p, p + 2) := fun v h2 h5 h6 => tkOk_mk (by omega) (by omega) h3 h4 (by omega) (by
    rcases Nat.lt_or_ge (p + 1) n with h | h
    · omega
    · exact absurd (hb (by omega)) h6) (fun h => ⟨h5, h2⟩) (fun h => by omega) (fun h => by omega)
  repeat' split
  all_goals first | exact s _ _ (by omega) (by omega) (by omega) (by omega) | exact s2 _ (by omega) (by omega) (by omega)
theorem tokS_ok {T : Nat → Nat} {n a : Nat} (ha : a ≤ n) (h7 : n ≤ 700) : tkOk n a (tokS T n a) := by
  obtain ⟨b1, b2, b3, b4⟩ := endR_b (p := isBl) (T := T) ha
  unfold tokS
  generalize endR isBl T n a = p at b1 b2 b3 b4
  unfold tkP
  by_cases c1 : n ≤ p
  · rw [if_pos c1]
    exact ⟨⟨Nat.zero_le _, Nat.two_pow_pos 30, b1, Nat.le_refl _, b2⟩, fun h => absurd rfl h, fun h => (by cases h), fun h => (by cases h), fun h => (by cases h)⟩
  · rw [if_neg c1]
    cases q1 : isLt (T p) with
    | true =>
      rw [if_pos rfl]
      obtain ⟨d1, d2, d3, d4⟩ := endR_b (p := isLt) (T := T) (n := n) (i := p) (by omega)
      have d5 : p < endR isLt T n p := by
        rw [endR_s (by omega) q1]
        exact (endR_b (p := isLt) (T := T) (n := n) (i := p + 1) (by omega)).1
      unfold wdT
      by_cases g : 6 < endR isLt T n p - p
      · rw [if_pos g]
        exact tkOk_mk (by omega) (by omega) b1 (by omega) d5 d2 (fun h => by omega) (fun h => by omega) (fun h => by omega)
      · rw [if_neg g]
        have cl := cdS_lt (T := T) (p := p) (L := endR isLt T n p - p) (by omega) (fun j hj => by
          have := d3 (p + j) (by omega) (by omega)
          exact (of_decide_eq_true this).2)
        cases o : wix 20 0 (cdS T p (endR isLt T n p - p)) with
        | none => exact tkOk_mk (by omega) cl b1 (by omega) d5 d2 (fun h => by omega) (fun h => by omega) (fun h => by omega)
        | some w =>
          have hw := wix_lt o
          dsimp only
          by_cases r : 10 ≤ w ∧ w ≤ 12
          · rw [if_pos r]
            exact tkOk_mk (by omega) (by omega) b1 (by omega) d5 d2 (fun h => by omega) (fun h => by omega) (fun h => by omega)
          · rw [if_neg r]
            exact tkOk_mk (by omega) (by omega) b1 (by omega) d5 d2 (fun h => by omega) (fun h => by omega) (fun h => by omega)
    | false =>
      rw [if_neg Bool.false_ne_true]
      cases q2 : isDg (T p) with
      | true =>
        rw [if_pos rfl]
        obtain ⟨d1, d2, d3, d4⟩ := endR_b (p := isDg) (T := T) (n := n) (i := p) (by omega)
        have d5 : p < endR isDg T n p := by
          rw [endR_s (by omega) q2]
          exact (endR_b (p := isDg) (T := T) (n := n) (i := p + 1) (by omega)).1
        have nl := nuS_le (T := T) (endR isDg T n p - p) p 0 (Nat.zero_le _)
        exact tkOk_mk (by omega) (by omega) b1 (by omega) d5 d2 (fun h => by omega) (fun h => by omega) (fun h => nl)
      | false =>
        rw [if_neg Bool.false_ne_true]
        exact sgT_ok b1 (by omega) (fun h => if_neg (by omega))
def nbF (lo hi : Nat) (tk : zTk) : Nat := if tk.1 = 4 then (if tk.2.1 < lo then 2 else if tk.2.1 ≤ hi then 0 else 2) else 1
def fM (M : zM) (f p : Nat) : zM := zsI (zsI M 3 2 (nI f)) 3 3 (nI p)
theorem c_isNum {S : List (Nat × Nat)} {M : zM} {n a lo hi : Nat} {tk : zTk} (hS : zShp S) (hR : pRf M.2.2) (hk : cTk M.1 tk) (ho : tkOk n a tk) (h1 : lo < 2 ^ 30) (h2 : hi < 2 ^ 30) : gX3_isNumber S 3 (nI lo) (nI hi) M = some (if nbF lo hi tk = 0 then (1, M) else (0, fM M (nbF lo hi tk) tk.2.2.1)) := by
  have P := cP hS hR
  obtain ⟨k1, k2, k3, k4⟩ := hk
  obtain ⟨⟨o1, o2, -, -, -⟩, -⟩ := ho
  have f1 := c_fails (S := S) (M := M) (p := tk.2.2.1) (f := 1) hS hR k2
  have f2 := c_fails (S := S) (M := M) (p := tk.2.2.1) (f := 2) hS hR k2
  unfold nbF
  by_cases c4 : tk.1 = 4
  · have v := k4 (Or.inr (Or.inr (Or.inl c4)))
    have c4' : nI tk.1 = 4 := by rw [c4]; rfl
    rw [if_pos c4]
    by_cases a1 : tk.2.1 < lo
    · simp (disch := first | omega | simp only [qI2, qL2, qC2, qF2]) only [gX3_isNumber, ↓P, k3, if_pos c4', v, nI_ltI, if_pos a1, ↓zb2_of f2, if_true]
      rfl
    · by_cases a2 : tk.2.1 ≤ hi
      · simp (disch := first | omega | simp only [qI2, qL2, qC2, qF2]) only [gX3_isNumber, ↓P, k3, if_pos c4', v, nI_ltI, if_neg a1, nI_leI, if_pos a2, if_true]
      · simp (disch := first | omega | simp only [qI2, qL2, qC2, qF2]) only [gX3_isNumber, ↓P, k3, if_pos c4', v, nI_ltI, if_neg a1, nI_leI, if_neg a2, ↓zb2_of f2, if_true]
        rfl
  · have c4' : ¬ nI tk.1 = 4 := fun h => c4 ((nI_eq (b := 4) (by omega) (by decide)).1 h)
    rw [if_neg c4]
    simp (disch := first | omega | simp only [qI2, qL2, qC2, qF2]) only [gX3_isNumber, ↓P, k3, if_neg c4', ↓zb2_of f1, zbo0]
    rfl
theorem cSr_ok {M0 M : zM} {t b o c : Nat} {st : List Nat} {out : List (Nat × Int32)} {tk : zTk} {w : Bool} (h1 : M.2.2 = M0.2.2) (h2 : ∀ x y, ¬ cFq t b x y → M.1 x y = M0.1 x y) (ht : t = 43 ∨ t = 75) (hp : cFp M.1 t b st o c out) : cSr M0 t b tk (.inr (w, st, o, c, out)) 1 M := ⟨h1, fun x y q _ => h2 x y q, fun f h => (by cases h), fun s h => by
  cases h
  exact ⟨rfl, hp, h2 3 2 (by unfold cFq; omega)⟩⟩
theorem c_begins {S : List (Nat × Nat)} {M : zM} {t b o c n a : Nat} {st : List Nat} {out : List (Nat × Int32)} {tk : zTk} (hb : cFb S M.2.2 t) (hp : cFp M.1 t b st o c out) (hk : cTk M.1 tk) (ho : tkOk n a tk) : ∃ (v : Int32) (M' : zM), gX3_beginsPart S 3 M = some (v, M') ∧ cSr M t b tk (beA tk st o c out) v M' := by
  obtain ⟨hS, hR, ht, h31⟩ := id hb
  have P := cP hS hR
  obtain ⟨p1, p2, p3, p4, p5, p6, p7, p8, p9, p10, p11⟩ := id hp
  obtain ⟨k1, k2, k3, k4⟩ := id hk
  obtain ⟨⟨o1, o2, -, -, -⟩, -, o8, o3, o4⟩ := id ho
  have op := nOP st
  obtain ⟨cf, cs⟩ := c_counts (S := S) (M0 := M) (M := M) (t := t) (b := b) (o := o) (c := c) (st := st) (out := out) (tk := tk) hS hR ht rfl (fun _ _ _ => rfl) k2 p4 p10
  have neK : ∀ m : Nat, m < 100 → ¬ tk.1 = m → ¬ nI tk.1 = nI m := fun m h1 h2 h3 => h2 ((nI_eq (by omega) (by omega)).1 h3)
  obtain ⟨Mf, f1, f2⟩ := cSr_f (S := S) (M0 := M) (M := M) (t := t) (b := b) (f := 1) (tk := tk) hS hR rfl (fun _ _ _ => rfl) ht k2
  obtain ⟨Mg, g1, g2⟩ := cSr_f (S := S) (M0 := M) (M := M) (t := t) (b := b) (f := 2) (tk := tk) hS hR rfl (fun _ _ _ => rfl) ht k2
  have f1' : gX3_fails S 3 1 M = some (0, Mf) := f1
  have g1' : gX3_fails S 3 2 M = some (0, Mg) := g1
  unfold beA
  by_cases c4 : tk.1 = 4
  · have v := k4 (Or.inr (Or.inr (Or.inl c4)))
    have c4' : nI tk.1 = 4 := by rw [c4]; rfl
    have isn := c_isNum (S := S) (M := M) (lo := 0) (hi := 9999) hS hR hk ho (by decide) (by decide)
    have isn' : gX3_isNumber S 3 0 9999 M = _ := isn
    rw [if_pos c4]
    by_cases a1 : 9999 < tk.2.1
    · have e : nbF 0 9999 tk = 2 := by unfold nbF; rw [if_pos c4, if_neg (Nat.not_lt_zero _), if_neg (by omega)]
      rw [if_pos a1]
      rw [e] at isn'
      have isn2 : gX3_isNumber S 3 0 9999 M = some (0, fM M 2 tk.2.2.1) := isn'
      have fe : fM M 2 tk.2.2.1 = Mg := by
        have := c_fails (S := S) (M := M) (p := tk.2.2.1) (f := 2) hS hR k2
        rw [g1'] at this
        injection this with this
        injection this with _ this
        exact this.symm
      refine ⟨0, Mg, ?_, g2⟩
      rw [fe] at isn2
      simp (disch := first | omega | simp only [qI2, qL2, qC2, qF2]) only [gX3_beginsPart, ↓P, k3, if_pos c4', ↓zb2_of isn2, if_true]
    · have e : nbF 0 9999 tk = 0 := by unfold nbF; rw [if_pos c4, if_neg (Nat.not_lt_zero _), if_pos (by omega)]
      rw [if_neg a1]
      rw [e] at isn'
      have isn2 : gX3_isNumber S 3 0 9999 M = some (1, M) := isn'
      have n10 : ¬ (1 : Int32) = 0 := by decide
      by_cases h64 : 64 ≤ c
      · obtain ⟨M', e1, e2⟩ := cf h64
        rw [if_pos h64]
        refine ⟨0, M', ?_, e2⟩
        simp (disch := first | omega | simp only [qI2, qL2, qC2, qF2]) only [gX3_beginsPart, ↓P, k3, if_pos c4', ↓zb2_of isn2, if_neg n10, ↓zb2_of e1, if_true]
      · have e1 := cs h64
        rw [if_neg h64]
        have tl := c_telk (S := S) (M := zsI M 3 9 (nI (c + 1))) (t := t) (kn := b + out.length) (k := 0) (v := nI tk.2.1) hb (by rw [zsI_ne (by omega)]; exact p5) (by omega)
        refine ⟨1, _, ?_, cSr_ok (M := zsI (zsI (zsI (zsI M 3 9 (nI (c + 1))) (t + 21 + 2) (b + out.length) 0) (t + 21 + 4) (b + out.length) (nI tk.2.1)) (t + 21) 6 (nI (b + out.length + 1))) rfl (fun x y q => by unfold cFq at q; rw [zsI_ne (by omega), zsI_ne (by omega), zsI_ne (by omega), zsI_ne (by omega)]) ht ⟨by rw [zsI_ne (by omega), zsI_ne (by omega), zsI_ne (by omega), zsI_ne (by omega)]; exact p1, skP_cg (fun j hj => by rw [zsI_ne (by omega), zsI_ne (by omega), zsI_ne (by omega), zsI_ne (by omega)]) p2, by rw [zsI_ne (by omega), zsI_ne (by omega), zsI_ne (by omega), zsI_ne (by omega)]; exact p3, by rw [zsI_ne (by omega), zsI_ne (by omega), zsI_ne (by omega), zsI_at], by rw [len_app, zsI_at, Nat.add_assoc], lsP_app (lsP_cg (fun j k1 k2 => ⟨by rw [zsI_ne (by omega), zsI_ne (by omega), zsI_ne (by omega), zsI_ne (by omega)], by rw [zsI_ne (by omega), zsI_ne (by omega), zsI_ne (by omega), zsI_ne (by omega)]⟩) p6) (by rw [zsI_ne (by omega), zsI_ne (by omega), zsI_at]; rfl) (by rw [zsI_ne (by omega), zsI_at]) (by show (0 : Nat) < 16; omega) (by show (0 : Nat) ≠ 2; omega) (fun e => by cases e), p7, by rw [len_app]; omega, p9, by omega, p11⟩⟩
        simp (disch := first | omega | simp only [qI2, qL2, qC2, qF2]) only [gX3_beginsPart, ↓P, k3, if_pos c4', ↓zb2_of isn2, if_neg n10, ↓zb2_of e1]
        rw [v]
        simp (disch := first | omega | simp only [qI2, qL2, qC2, qF2]) only [↓zb2_of tl, if_neg n10]
  · have c4' : ¬ nI tk.1 = 4 := neK 4 (by decide) c4
    rw [if_neg c4]
    have n10 : ¬ (1 : Int32) = 0 := by decide
    by_cases c3 : tk.1 = 3
    · have v := k4 (Or.inr (Or.inl c3))
      have c3' : nI tk.1 = 3 := by rw [c3]; rfl
      have o3' := o3 c3
      by_cases a1 : 13 ≤ tk.2.1
      · have a1' : ¬ tk.2.1 < 13 := by omega
        have li13 : (13 : Int32) = nI 13 := rfl
        rw [if_pos ⟨c3, a1⟩]
        by_cases h64 : 64 ≤ c
        · obtain ⟨M', e1, e2⟩ := cf h64
          rw [if_pos h64]
          refine ⟨0, M', ?_, e2⟩
          simp (disch := first | omega | simp only [qI2, qL2, qC2, qF2]) only [gX3_beginsPart, ↓P, k3, if_neg c4', if_pos c3', v, li13, nI_ltI, if_neg a1', ↓zb2_of e1, if_true]
        · have e1 := cs h64
          rw [if_neg h64]
          have tl := c_telk (S := S) (M := zsI M 3 9 (nI (c + 1))) (t := t) (kn := b + out.length) (k := 1) (v := nI (tk.2.1 - 13)) hb (by rw [zsI_ne (by omega)]; exact p5) (by omega)
          have sb : nI tk.2.1 - nI 13 = nI (tk.2.1 - 13) := pk_sub a1
          refine ⟨1, _, ?_, cSr_ok (M := zsI (zsI (zsI (zsI M 3 9 (nI (c + 1))) (t + 21 + 2) (b + out.length) 1) (t + 21 + 4) (b + out.length) (nI (tk.2.1 - 13))) (t + 21) 6 (nI (b + out.length + 1))) rfl (fun x y q => by unfold cFq at q; rw [zsI_ne (by omega), zsI_ne (by omega), zsI_ne (by omega), zsI_ne (by omega)]) ht ⟨by rw [zsI_ne (by omega), zsI_ne (by omega), zsI_ne (by omega), zsI_ne (by omega)]; exact p1, skP_cg (fun j hj => by rw [zsI_ne (by omega), zsI_ne (by omega), zsI_ne (by omega), zsI_ne (by omega)]) p2, by rw [zsI_ne (by omega), zsI_ne (by omega), zsI_ne (by omega), zsI_ne (by omega)]; exact p3, by rw [zsI_ne (by omega), zsI_ne (by omega), zsI_ne (by omega), zsI_at], by rw [len_app, zsI_at, Nat.add_assoc], lsP_app (lsP_cg (fun j k1 k2 => ⟨by rw [zsI_ne (by omega), zsI_ne (by omega), zsI_ne (by omega), zsI_ne (by omega)], by rw [zsI_ne (by omega), zsI_ne (by omega), zsI_ne (by omega), zsI_ne (by omega)]⟩) p6) (by rw [zsI_ne (by omega), zsI_ne (by omega), zsI_at]; rfl) (by rw [zsI_ne (by omega), zsI_at]) (by show (1 : Nat) < 16; omega) (by show (1 : Nat) ≠ 2; omega) (fun _ => ⟨tk.2.1 - 13, by omega, rfl⟩), p7, by rw [len_app]; omega, p9, by omega, p11⟩⟩
          simp (disch := first | omega | simp only [qI2, qL2, qC2, qF2]) only [gX3_beginsPart, ↓P, k3, if_neg c4', if_pos c3', v, li13, nI_ltI, if_neg a1', ↓zb2_of e1, if_neg n10]
          rw [sb]
          simp (disch := first | omega | simp only [qI2, qL2, qC2, qF2]) only [↓zb2_of tl, if_neg n10]
      · have a1' : tk.2.1 < 13 := by omega
        have li13 : (13 : Int32) = nI 13 := rfl
        have c6' : ¬ nI tk.1 = 6 := neK 6 (by decide) (by omega)
        have c8' : ¬ nI tk.1 = 8 := neK 8 (by decide) (by omega)
        rw [if_neg (fun h => a1 h.2), if_neg (by omega), if_neg (fun h => by omega)]
        refine ⟨0, Mf, ?_, f2⟩
        simp (disch := first | omega | simp only [qI2, qL2, qC2, qF2]) only [gX3_beginsPart, ↓P, k3, if_neg c4', if_pos c3', v, li13, nI_ltI, if_pos a1', gX3_beginsPart_94, if_neg c6', if_neg c8', gX3_beginsPart_159, if_true, ↓zb2_of f1', zbo0]
    · have c3' : ¬ nI tk.1 = 3 := neK 3 (by decide) c3
      rw [if_neg (fun h => c3 h.1)]
      have bp : gX3_beginsPart S 3 M = gX3_beginsPart_94 S 3 (M.1 4 6) M := by
        simp (disch := first | omega | simp only [qI2, qL2, qC2, qF2]) only [gX3_beginsPart, ↓P, k3, if_neg c4', if_neg c3']
      rw [bp]
      by_cases c6 : tk.1 = 6
      · have c6' : nI tk.1 = 6 := by rw [c6]; rfl
        have li8 : (8 : Int32) = nI 8 := rfl
        rw [if_pos c6]
        by_cases h8 : 8 ≤ o
        · have h8' : ¬ o < 8 := by omega
          rw [if_pos h8]
          refine ⟨0, Mg, ?_, g2⟩
          simp (disch := first | omega | simp only [qI2, qL2, qC2, qF2]) only [gX3_beginsPart_94, ↓P, k3, if_pos c6', p3, li8, nI_ltI, if_neg h8', ↓zb2_of g1', zbo0]
        · have h8' : o < 8 := by omega
          have ho2 := c_hold (S := S) (M := zsI M 3 8 (nI (o + 1))) (w := st.length) (k := 2) hS hR (by rw [zsI_ne (by omega)]; exact p1) (by omega)
          rw [if_neg h8]
          refine ⟨1, _, ?_, cSr_ok (M := zsI (zsI (zsI M 3 8 (nI (o + 1))) 42 st.length 2) 3 7 (nI (st.length + 1))) rfl (fun x y q => by unfold cFq at q; rw [zsI_ne (by omega), zsI_ne (by omega), zsI_ne (by omega)]) ht ⟨zsI_at _ _ _ _, ⟨by rw [zsI_ne (by omega), zsI_at]; rfl, skP_cg (fun j hj => by rw [zsI_ne (by omega), zsI_ne (by omega), zsI_ne (by omega)]) p2⟩, by rw [zsI_ne (by omega), zsI_ne (by omega), zsI_at], by rw [zsI_ne (by omega), zsI_ne (by omega), zsI_ne (by omega)]; exact p4, by rw [zsI_ne (by omega), zsI_ne (by omega), zsI_ne (by omega)]; exact p5, lsP_cg (fun j k1 k2 => ⟨by rw [zsI_ne (by omega), zsI_ne (by omega), zsI_ne (by omega)], by rw [zsI_ne (by omega), zsI_ne (by omega), zsI_ne (by omega)]⟩) p6, ⟨⟨by omega, by omega⟩, p7⟩, ?_, ?_, p10, by omega⟩⟩
          · simp (disch := first | omega | simp only [qI2, qL2, qC2, qF2]) only [gX3_beginsPart_94, ↓P, k3, if_pos c6', p3, li8, nI_ltI, if_pos h8', nI_1]
            have ho2' := ho2
            simp (disch := first | omega | simp only [qI2, qL2, qC2, qF2]) only [↓zb2_of ho2', zbo1]
          · show c = b + out.length + ((if 2 = 2 then 0 else 1) + nOp st)
            rw [if_pos rfl, Nat.zero_add]
            exact p8
          · show (if 2 = 2 then 1 else 0) + nPa st = o + 1
            rw [if_pos rfl]
            omega
      · have c6' : ¬ nI tk.1 = 6 := neK 6 (by decide) c6
        rw [if_neg c6]
        by_cases c8 : tk.1 = 8 ∧ tk.2.1 = 5
        · have c8' : nI tk.1 = 8 := by rw [c8.1]; rfl
          have v := k4 (Or.inr (Or.inr (Or.inr c8.1)))
          have v5 : nI tk.2.1 = 5 := by rw [c8.2]; rfl
          obtain ⟨kt, t1, t2, t3, t4⟩ := c_top hb hp
          have rt := c_rank (S := S) (M := M) t2 (by omega)
          have r5 := c_rank (S := S) (M := M) (k := 5) (by omega) (by omega)
          have r5' : gX3_rank S 5 M = some (nI 3) := r5
          have u1 : gX3_beginsPart_94 S 3 (M.1 4 6) M = gX3_beginsPart_159 S 3 1 M := by
            rw [v]
            simp (disch := first | omega | simp only [qI2, qL2, qC2, qF2]) only [gX3_beginsPart_94, ↓P, k3, if_neg c6', if_pos c8', if_pos v5]
          rw [u1]
          have rk6 : rkN kt ≤ 6 := by unfold rkN; split <;> (try split) <;> (try split) <;> omega
          by_cases h3 : topR st ≤ 3
          · have h3' : rkN kt ≤ 3 := by omega
            rw [if_pos ⟨c8, h3⟩]
            by_cases h64 : 64 ≤ c
            · obtain ⟨M', e1, e2⟩ := cf h64
              rw [if_pos h64]
              refine ⟨0, M', ?_, e2⟩
              simp (disch := first | omega | simp only [qI2, qL2, qC2, qF2]) only [gX3_beginsPart_159, if_neg n10, ↓P, ↓bind_of t1, ↓bind_of rt, ↓bind_of r5', nI_leI, if_pos h3', ↓zb2_of e1, if_true]
            · have e1 := cs h64
              rw [if_neg h64]
              have ho2 := c_hold (S := S) (M := zsI M 3 9 (nI (c + 1))) (w := st.length) (k := 5) hS hR (by rw [zsI_ne (by omega)]; exact p1) (by omega)
              refine ⟨1, _, ?_, cSr_ok (M := zsI (zsI (zsI M 3 9 (nI (c + 1))) 42 st.length 5) 3 7 (nI (st.length + 1))) rfl (fun x y q => by unfold cFq at q; rw [zsI_ne (by omega), zsI_ne (by omega), zsI_ne (by omega)]) ht ⟨zsI_at _ _ _ _, ⟨by rw [zsI_ne (by omega), zsI_at]; rfl, skP_cg (fun j hj => by rw [zsI_ne (by omega), zsI_ne (by omega), zsI_ne (by omega)]) p2⟩, by rw [zsI_ne (by omega), zsI_ne (by omega), zsI_ne (by omega)]; exact p3, by rw [zsI_ne (by omega), zsI_ne (by omega), zsI_at], by rw [zsI_ne (by omega), zsI_ne (by omega), zsI_ne (by omega)]; exact p5, lsP_cg (fun j k1 k2 => ⟨by rw [zsI_ne (by omega), zsI_ne (by omega), zsI_ne (by omega)], by rw [zsI_ne (by omega), zsI_ne (by omega), zsI_ne (by omega)]⟩) p6, ⟨⟨by omega, by omega⟩, p7⟩, ?_, ?_, by omega, p11⟩⟩
              · simp (disch := first | omega | simp only [qI2, qL2, qC2, qF2]) only [gX3_beginsPart_159, if_neg n10, ↓P, ↓bind_of t1, ↓bind_of rt, ↓bind_of r5', nI_leI, if_pos h3', ↓zb2_of e1, ↓zb2_of ho2]
              · show c + 1 = b + out.length + ((if 5 = 2 then 0 else 1) + nOp st)
                rw [if_neg (by omega)]
                omega
              · show (if 5 = 2 then 1 else 0) + nPa st = o
                rw [if_neg (by omega)]
                omega
          · have h3' : ¬ rkN kt ≤ 3 := by omega
            rw [if_neg (fun h => h3 h.2)]
            refine ⟨0, Mf, ?_, f2⟩
            simp (disch := first | omega | simp only [qI2, qL2, qC2, qF2]) only [gX3_beginsPart_159, if_neg n10, ↓P, ↓bind_of t1, ↓bind_of rt, ↓bind_of r5', nI_leI, if_neg h3', ↓zb2_of f1', zbo0]
        · rw [if_neg (fun h => c8 h.1)]
          refine ⟨0, Mf, ?_, f2⟩
          by_cases c88 : tk.1 = 8
          · have c8' : nI tk.1 = 8 := by rw [c88]; rfl
            have v := k4 (Or.inr (Or.inr (Or.inr c88)))
            have v5 : ¬ nI tk.2.1 = 5 := fun h => c8 ⟨c88, (nI_eq (b := 5) (by omega) (by decide)).1 h⟩
            rw [v]
            simp (disch := first | omega | simp only [qI2, qL2, qC2, qF2]) only [gX3_beginsPart_94, ↓P, k3, if_neg c6', if_pos c8', if_neg v5, gX3_beginsPart_159, if_true, ↓zb2_of f1', zbo0]
          · have c8' : ¬ nI tk.1 = 8 := neK 8 (by decide) c88
            simp (disch := first | omega | simp only [qI2, qL2, qC2, qF2]) only [gX3_beginsPart_94, ↓P, k3, if_neg c6', if_neg c8', gX3_beginsPart_159, if_true, ↓zb2_of f1', zbo0]
