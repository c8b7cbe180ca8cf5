/-! pure part 67: formulas: the class's other step; the loop -/
theorem rk_le (k : Nat) (h : k < 16) : rkN k ≤ 6 ∨ 16 ≤ k := by
  left
  unfold rkN
  split
  · omega
  · split
    · omega
    · split <;> omega
theorem rk_sign {v : Nat} (h1 : 3 ≤ v) (h2 : v ≤ 15) : 1 ≤ rkN v ∧ rkN v ≤ 6 := by
  unfold rkN
  split
  · omega
  · split
    · omega
    · split <;> omega
theorem unw_1 : ∀ {st : List Nat} {out : List (Nat × Int32)}, kOk st → (unw 1 st out).1 = [] ∨ ∃ st', (unw 1 st out).1 = 2 :: st'
  | [], _, _ => Or.inl rfl
  | k :: st, out, h => by
    show (if 1 ≤ rkN k then unw 1 st (out ++ [(k, 0)]) else (k :: st, out)).1 = [] ∨ ∃ st', (if 1 ≤ rkN k then unw 1 st (out ++ [(k, 0)]) else (k :: st, out)).1 = 2 :: st'
    by_cases q : 1 ≤ rkN k
    · rw [if_pos q]
      exact unw_1 h.2
    · rw [if_neg q]
      right
      have : k = 2 := by
        have h1 := h.1
        unfold rkN at q
        split at q
        · omega
        · split at q
          · omega
          · split at q <;> omega
      exact ⟨st, by rw [this]⟩
theorem c_ends {S : List (Nat × Nat)} {M : zM} {t b o c n a : Nat} {st : List Nat} {out : List (Nat × Int32)} {tk : zTk} (hb : cFb S M.2.2 t) (hp : cFp M.1 t b st o c out) (hk : cTk M.1 tk) (ho : tkOk n a tk) : ∃ (v : Int32) (M' : zM), gX3_endsPart S 3 M = some (v, M') ∧ cSr M t b tk (enA tk st o c out) v M' := by
  obtain ⟨hS, hR, ht, h31⟩ := id hb
  have P := cP hS hR
  obtain ⟨p1, p2, p3, p4, p5, p6, p7, p8, p9, p10, p11⟩ := id hp
  obtain ⟨k1, k2, k3, k4⟩ := id hk
  obtain ⟨⟨o1, o2, -, -, -⟩, -, o8, o3, o4⟩ := id ho
  have op := nOP st
  have neK : ∀ m : Nat, m < 100 → ¬ tk.1 = m → ¬ nI tk.1 = nI m := fun m h1 h2 h3 => h2 ((nI_eq (by omega) (by omega)).1 h3)
  obtain ⟨Mf, f1, f2⟩ := cSr_f (S := S) (M0 := M) (M := M) (t := t) (b := b) (f := 1) (tk := tk) hS hR rfl (fun _ _ _ => rfl) ht k2
  have f1' : gX3_fails S 3 1 M = some (0, Mf) := f1
  have n10 : ¬ (1 : Int32) = 0 := by decide
  unfold enA
  by_cases c7 : tk.1 = 7 ∧ 0 < o
  · have c7' : nI tk.1 = 7 := by rw [c7.1]; rfl
    have o0 : ¬ nI o ≤ 0 := nI_nle c7.2 (by omega)
    have r2 := c_rank (S := S) (M := M) (k := 2) (by omega) (by omega)
    have r2' : gX3_rank S 2 M = some 0 := r2
    obtain ⟨M5, e1, e2, e3, e4⟩ := c_unwind (r := 1) hb (by omega) hp (Or.inl (by omega))
    have e1' : gX3_unwind S 3 (0 + 1) M = some M5 := e1
    obtain ⟨q1, q2, q3, q4, q5, q6, q7, q8, q9, q10, q11⟩ := e4
    have R5 : pRf M5.2.2 := e2 ▸ hR
    have P5 := cP hS R5
    rw [if_pos c7]
    rcases unw_1 (out := out) p7 with h | ⟨st', h⟩
    · rw [h] at q9
      have : nPa [] = 0 := rfl
      omega
    · rw [h] at q1 q2 q7 q8 q9 ⊢
      have hl : (2 :: st').length = st'.length + 1 := rfl
      have no : nOp (2 :: st') = nOp st' := by
        show (if 2 = 2 then 0 else 1) + nOp st' = nOp st'
        rw [if_pos rfl, Nat.zero_add]
      have np : nPa (2 :: st') = 1 + nPa st' := by
        show (if 2 = 2 then 1 else 0) + nPa st' = 1 + nPa st'
        rw [if_pos rfl]
      have ho1 : nI o - 1 = nI (o - 1) := pk_sub (b := 1) c7.2
      refine ⟨1, zsI (zsI M5 3 7 (nI st'.length)) 3 8 (nI (o - 1)), ?_, cSr_ok e2 (fun x y q => by
        unfold cFq at q
        rw [zsI_ne (by omega), zsI_ne (by omega)]
        exact e3 x y (by unfold cFq; omega)) ht ⟨by rw [zsI_ne (by omega), zsI_at]; rfl, skP_cg (fun j hj => by rw [zsI_ne (by omega), zsI_ne (by omega)]) q2.2, zsI_at _ _ _ _, by rw [zsI_ne (by omega), zsI_ne (by omega)]; exact q4, by rw [zsI_ne (by omega), zsI_ne (by omega)]; exact q5, lsP_cg (fun j k1 k2 => ⟨by rw [zsI_ne (by omega), zsI_ne (by omega)], by rw [zsI_ne (by omega), zsI_ne (by omega)]⟩) q6, q7.2, ?_, ?_, q10, by omega⟩⟩
      · simp (disch := first | omega | simp only [qI2, qL2, qC2, qF2]) only [gX3_endsPart, ↓P, k3, if_pos c7', p3, if_neg o0, ↓bind_of r2', ↓bind_of e1', ↓P5, q1]
        rw [hl, nI_pred]
        simp (disch := first | omega | simp only [qI2, qL2, qC2, qF2]) only [zsI_ne, q3, ho1]
      · show c = b + _ + nOp st'
        omega
      · show nPa st' = o - 1
        omega
  · have s51 : gX3_endsPart S 3 M = gX3_endsPart_51 S 3 M := by
      by_cases c7b : tk.1 = 7
      · have c7' : nI tk.1 = 7 := by rw [c7b]; rfl
        have o0 : nI o ≤ 0 := by
          have : o = 0 := by omega
          rw [this]; decide
        simp (disch := first | omega | simp only [qI2, qL2, qC2, qF2]) only [gX3_endsPart, ↓P, k3, if_pos c7', p3, if_pos o0]
      · have c7' : ¬ nI tk.1 = 7 := neK 7 (by decide) c7b
        simp (disch := first | omega | simp only [qI2, qL2, qC2, qF2]) only [gX3_endsPart, ↓P, k3, if_neg c7']
    rw [if_neg c7, s51]
    by_cases c8 : tk.1 = 8
    · have c8' : nI tk.1 = 8 := by rw [c8]; rfl
      have v := k4 (Or.inr (Or.inr (Or.inr c8)))
      have hv := o8 c8
      by_cases c5 : tk.2.1 = 5
      · have v5 : nI tk.2.1 = 5 := by rw [c5]; rfl
        rw [if_neg (fun h => h.2 c5)]
        refine ⟨0, Mf, ?_, f2⟩
        simp (disch := first | omega | simp only [qI2, qL2, qC2, qF2]) only [gX3_endsPart_51, ↓P, k3, if_pos c8', v, if_pos v5, ↓zb2_of f1', zbo0]
      · have v5 : ¬ nI tk.2.1 = 5 := fun h => c5 ((nI_eq (b := 5) (by omega) (by decide)).1 h)
        have rv := c_rank (S := S) (M := M) (k := tk.2.1) (by omega) (by omega)
        have r8 := c_rank (S := S) (M := M) (k := 8) (by omega) (by omega)
        have r8' : gX3_rank S 8 M = some (nI 4) := r8
        obtain ⟨rs1, rs2⟩ := rk_sign hv.1 hv.2
        rw [if_pos ⟨c8, c5⟩]
        have fin : ∀ (M2 : zM) (q : List Nat × List (Nat × Int32)), M2.2.2 = M.2.2 → (∀ x y, ¬ cFq t b x y → M2.1 x y = M.1 x y) → cFp M2.1 t b q.1 o c q.2 → ∃ (v : Int32) (M' : zM), gX3_endsPart_142 S 3 M2 = some (v, M') ∧ cSr M t b tk (if 64 ≤ c then .inl 2 else .inr (true, tk.2.1 :: q.1, o, c + 1, q.2)) v M' := by
          intro M2 q h1 h2 h3
          have R2 : pRf M2.2.2 := h1 ▸ hR
          obtain ⟨q1, q2, q3, q4, q5, q6, q7, q8, q9, q10, q11⟩ := h3
          have oq := nOP q.1
          obtain ⟨cf, cs⟩ := c_counts (S := S) (M0 := M) (M := M2) (t := t) (b := b) (o := o) (c := c) (st := st) (out := out) (tk := tk) hS R2 ht h1 h2 k2 q4 q10
          by_cases h64 : 64 ≤ c
          · obtain ⟨M', e1, e2⟩ := cf h64
            rw [if_pos h64]
            refine ⟨0, M', ?_, e2⟩
            have P2 := cP hS R2
            simp (disch := first | omega | simp only [qI2, qL2, qC2, qF2]) only [gX3_endsPart_142, ↓P2, ↓zb2_of e1, if_true]
          · have e1 := cs h64
            rw [if_neg h64]
            have ho2 := c_hold (S := S) (M := zsI M2 3 9 (nI (c + 1))) (w := q.1.length) (k := nI tk.2.1) hS R2 (by rw [zsI_ne (by omega)]; exact q1) (by omega)
            have P2 := cP hS R2
            have v2 : M2.1 4 6 = nI tk.2.1 := (h2 4 6 (by unfold cFq; omega)).trans v
            refine ⟨1, _, ?_, cSr_ok (M := zsI (zsI (zsI M2 3 9 (nI (c + 1))) 42 q.1.length (nI tk.2.1)) 3 7 (nI (q.1.length + 1))) h1 (fun x y q => by
              rw [zsI_ne (by unfold cFq at q; omega), zsI_ne (by unfold cFq at q; omega), zsI_ne (by unfold cFq at q; omega)]
              exact h2 x y q) ht ⟨zsI_at _ _ _ _, ⟨by rw [zsI_ne (by omega), zsI_at], skP_cg (fun j hj => by rw [zsI_ne (by omega), zsI_ne (by omega), zsI_ne (by omega)]) q2⟩, by rw [zsI_ne (by omega), zsI_ne (by omega), zsI_ne (by omega)]; exact q3, by rw [zsI_ne (by omega), zsI_ne (by omega), zsI_at], by rw [zsI_ne (by omega), zsI_ne (by omega), zsI_ne (by omega)]; exact q5, lsP_cg (fun j k1 k2 => ⟨by rw [zsI_ne (by omega), zsI_ne (by omega), zsI_ne (by omega)], by rw [zsI_ne (by omega), zsI_ne (by omega), zsI_ne (by omega)]⟩) q6, ⟨⟨by omega, by omega⟩, q7⟩, ?_, ?_, by omega, q11⟩⟩
            · simp (disch := first | omega | simp only [qI2, qL2, qC2, qF2]) only [gX3_endsPart_142, ↓P2, ↓zb2_of e1, if_neg n10, zsI_ne, v2, ↓zb2_of ho2]
            · show c + 1 = b + q.2.length + ((if tk.2.1 = 2 then 0 else 1) + nOp q.1)
              rw [if_neg (by omega)]
              omega
            · show (if tk.2.1 = 2 then 1 else 0) + nPa q.1 = o
              rw [if_neg (by omega)]
              omega
        by_cases r4 : rkN tk.2.1 = 4
        · have i4 : nI (rkN tk.2.1) = nI 4 := by rw [r4]
          obtain ⟨M6, e1, e2, e3, e4⟩ := c_unwind (r := 5) hb (by omega) hp (Or.inl (by omega))
          have e1' : gX3_unwind S 3 (nI (rkN tk.2.1) + 1) M = some M6 := by rw [r4]; exact e1
          obtain ⟨kt, t1, t2, t3, t4⟩ := c_top (e2.symm ▸ hb) e4
          have rt := c_rank (S := S) (M := M6) t2 (by omega)
          have P6 := cP hS (show pRf M6.2.2 by rw [e2]; exact hR)
          rw [if_pos r4]
          unfold enB
          by_cases t44 : topR (unw 5 st out).1 = 4
          · rw [if_pos ⟨r4, t44⟩]
            have k44 : nI (rkN kt) = nI (rkN tk.2.1) := by rw [t4, t44, r4]
            obtain ⟨Mg, g1, g2⟩ := cSr_f (S := S) (M0 := M) (M := M6) (t := t) (b := b) (f := 1) (tk := tk) hS (e2.symm ▸ hR) e2 e3 ht k2
            have g1' : gX3_fails S 3 1 M6 = some (0, Mg) := g1
            refine ⟨0, Mg, ?_, g2⟩
            simp (disch := first | omega | simp only [qI2, qL2, qC2, qF2]) only [gX3_endsPart_51, ↓P, k3, if_pos c8', v, if_neg v5, ↓bind_of rv, ↓bind_of r8', if_pos i4, gX3_endsPart_105, if_neg n10, ↓bind_of e1', ↓P6, ↓bind_of t1, ↓bind_of rt, if_pos k44, ↓zb2_of g1', zbo0]
          · rw [if_neg (fun h => t44 h.2)]
            have k44 : ¬ nI (rkN kt) = nI (rkN tk.2.1) := fun h => t44 (by
              have := (nI_eq (by have := rk_le kt t3; omega) (by omega)).1 h
              rw [← t4, this, r4])
            obtain ⟨v', M', w1, w2⟩ := fin M6 (unw 5 st out) e2 e3 e4
            refine ⟨v', M', ?_, w2⟩
            rw [← w1]
            simp (disch := first | omega | simp only [qI2, qL2, qC2, qF2]) only [gX3_endsPart_51, ↓P, k3, if_pos c8', v, if_neg v5, ↓bind_of rv, ↓bind_of r8', if_pos i4, gX3_endsPart_105, if_neg n10, ↓bind_of e1', ↓P6, ↓bind_of t1, ↓bind_of rt, if_neg k44]
        · have i4 : ¬ nI (rkN tk.2.1) = nI 4 := fun h => r4 ((nI_eq (by omega) (by omega)).1 h)
          obtain ⟨M6, e1, e2, e3, e4⟩ := c_unwind (r := rkN tk.2.1) hb rs2 hp (Or.inl rs1)
          rw [if_neg r4]
          unfold enB
          rw [if_neg (fun h => r4 h.1)]
          obtain ⟨v', M', w1, w2⟩ := fin M6 (unw (rkN tk.2.1) st out) e2 e3 e4
          refine ⟨v', M', ?_, w2⟩
          rw [← w1]
          simp (disch := first | omega | simp only [qI2, qL2, qC2, qF2]) only [gX3_endsPart_51, ↓P, k3, if_pos c8', v, if_neg v5, ↓bind_of rv, ↓bind_of r8', if_neg i4, gX3_endsPart_105, if_true, ↓bind_of e1]
    · have c8' : ¬ nI tk.1 = 8 := neK 8 (by decide) c8
      rw [if_neg (fun h => c8 h.1)]
      refine ⟨0, Mf, ?_, f2⟩
      simp (disch := first | omega | simp only [qI2, qL2, qC2, qF2]) only [gX3_endsPart_51, ↓P, k3, if_neg c8', ↓zb2_of f1', zbo0]
def ptB (tk : zTk) : Bool := decide (tk.1 = 4 ∨ tk.1 = 3)
def sgB (tk : zTk) : Bool := decide (tk.1 = 8 ∧ tk.2.1 ≠ 5)
theorem c_128 {S : List (Nat × Nat)} {M : zM} {n a : Nat} {tk : zTk} {k89 : Nat → Int32 → Int32 → Int32 → zM → Option (Int32 × zM)} {x1 x2 x3 : Int32} (hS : zShp S) (hR : pRf M.2.2) (hk : cTk M.1 tk) (ho : tkOk n a tk) : gX3_laws_128 S k89 3 x1 x2 x3 M = gX3_laws_185 S k89 3 x1 x2 x3 (bI (ptB tk)) (bI (sgB tk)) M := by
  have P := cP hS hR
  obtain ⟨k1, k2, k3, k4⟩ := hk
  obtain ⟨⟨o1, o2, -, -, -⟩, -⟩ := ho
  have neK : ∀ m : Nat, m < 100 → ¬ tk.1 = m → ¬ nI tk.1 = nI m := fun m h1 h2 h3 => h2 ((nI_eq (by omega) (by omega)).1 h3)
  have s155 : ∀ x0 : Int32, gX3_laws_155 S k89 3 x1 x2 x3 x0 M = gX3_laws_185 S k89 3 x1 x2 x3 x0 (bI (sgB tk)) M := by
    intro x0
    unfold sgB
    by_cases c8 : tk.1 = 8
    · have c8' : nI tk.1 = 8 := by rw [c8]; rfl
      have v := k4 (Or.inr (Or.inr (Or.inr c8)))
      by_cases c5 : tk.2.1 = 5
      · have v5 : nI tk.2.1 = 5 := by rw [c5]; rfl
        rw [decide_eq_false (fun h => h.2 c5)]
        simp (disch := first | omega | simp only [qI2, qL2, qC2, qF2]) only [gX3_laws_155, ↓P, k3, if_pos c8', v, if_pos v5]
        rfl
      · have v5 : ¬ nI tk.2.1 = 5 := fun h => c5 ((nI_eq (b := 5) (by omega) (by decide)).1 h)
        rw [decide_eq_true ⟨c8, c5⟩]
        simp (disch := first | omega | simp only [qI2, qL2, qC2, qF2]) only [gX3_laws_155, ↓P, k3, if_pos c8', v, if_neg v5]
        rfl
    · have c8' : ¬ nI tk.1 = 8 := neK 8 (by decide) c8
      rw [decide_eq_false (fun h => c8 h.1)]
      simp (disch := first | omega | simp only [qI2, qL2, qC2, qF2]) only [gX3_laws_155, ↓P, k3, if_neg c8']
      rfl
  rw [← s155]
  unfold ptB
  by_cases c4 : tk.1 = 4
  · have c4' : nI tk.1 = 4 := by rw [c4]; rfl
    rw [decide_eq_true (Or.inl c4)]
    simp (disch := first | omega | simp only [qI2, qL2, qC2, qF2]) only [gX3_laws_128, ↓P, k3, if_pos c4']
    rfl
  · have c4' : ¬ nI tk.1 = 4 := neK 4 (by decide) c4
    by_cases c3 : tk.1 = 3
    · have c3' : nI tk.1 = 3 := by rw [c3]; rfl
      rw [decide_eq_true (Or.inr c3)]
      simp (disch := first | omega | simp only [qI2, qL2, qC2, qF2]) only [gX3_laws_128, ↓P, k3, if_neg c4', if_pos c3']
      rfl
    · have c3' : ¬ nI tk.1 = 3 := neK 3 (by decide) c3
      rw [decide_eq_false (by omega)]
      simp (disch := first | omega | simp only [qI2, qL2, qC2, qF2]) only [gX3_laws_128, ↓P, k3, if_neg c4', if_neg c3']
      rfl
theorem beA_w {tk : zTk} {st : List Nat} {o c : Nat} {out : List (Nat × Int32)} {s : zAu} (h : beA tk st o c out = .inr s) : s.1 = !(ptB tk) ∧ tk.1 ≠ 0 := by
  unfold beA at h
  unfold ptB
  repeat' split at h
  all_goals first | cases h | skip
  all_goals first
    | (injection h with h; subst h; refine ⟨?_, by omega⟩; first | rw [decide_eq_true (by omega)]; rfl | rw [decide_eq_false (by omega)]; rfl)
    | (refine ⟨?_, by omega⟩; first | rw [decide_eq_true (by omega)]; rfl | rw [decide_eq_false (by omega)]; rfl)
theorem enB_w {v o c : Nat} {q : List Nat × List (Nat × Int32)} {s : zAu} (h : enB v q o c = .inr s) : s.1 = true := by
  unfold enB at h
  by_cases h1 : rkN v = 4 ∧ topR q.1 = 4
  · rw [if_pos h1] at h
    cases h
  · rw [if_neg h1] at h
    by_cases h2 : 64 ≤ c
    · rw [if_pos h2] at h
      cases h
    · rw [if_neg h2] at h
      injection h with h
      subst h
      rfl
theorem enA_w {tk : zTk} {st : List Nat} {o c : Nat} {out : List (Nat × Int32)} {s : zAu} (h : enA tk st o c out = .inr s) : s.1 = sgB tk ∧ tk.1 ≠ 0 := by
  unfold enA at h
  unfold sgB
  by_cases c7 : tk.1 = 7 ∧ 0 < o
  · rw [if_pos c7] at h
    injection h with h
    subst h
    exact ⟨by rw [decide_eq_false (by omega)], by omega⟩
  · rw [if_neg c7] at h
    by_cases c8 : tk.1 = 8 ∧ tk.2.1 ≠ 5
    · rw [if_pos c8] at h
      exact ⟨by rw [decide_eq_true c8]; exact enB_w h, by omega⟩
    · rw [if_neg c8] at h
      cases h
def auR (T : Nat → Nat) (n : Nat) : Nat → zTk → zAu → Option (Nat × zTk × zAu)
  | 0, _, _ => none
  | k + 1, tk, s => match stepA tk s with | .inl f => some (f, tk, s) | .inr s' => auR T n k (tokS T n tk.2.2.2) s'
theorem c_lawloop {S : List (Nat × Nat)} {T : Nat → Nat} {n t b r : Nat} (hn7 : n ≤ 700) (hr : r < 3) : ∀ (k fu i : Nat) (M : zM) (tk0 : zTk) (s : zAu) (f : Nat) (tk' : zTk) (s' : zAu), cFb S M.2.2 t → cTx S M.2.2 M.1 T n → M.1 4 3 = nI tk0.2.2.2 → tk0.2.2.2 ≤ n → i + 2 ≤ tk0.2.2.2 → k < fu → cFp M.1 t b s.2.1 s.2.2.1 s.2.2.2.1 s.2.2.2.2 → auR T n k (tokS T n tk0.2.2.2) s = some (f, tk', s') →
    ∃ (v : Int32) (M' : zM), gX3_laws_89 S fu 3 (nI r) (bI s.1) (nI i) M = some (v, M') ∧ M'.2.2 = M.2.2 ∧ (∀ x y, ¬ cFq t b x y → ¬ (x = 3 ∧ (y = 2 ∨ y = 3)) → ¬ q43 x y → ¬ (x = t + 29 ∧ y = r) → M'.1 x y = M.1 x y) ∧ (f ≠ 9 → v = 0 ∧ M'.1 3 2 = nI f ∧ M'.1 3 3 = nI tk'.2.2.1) ∧ (f = 9 → v = 1 ∧ cTk M'.1 tk' ∧ M'.1 3 2 = M.1 3 2 ∧ cFp M'.1 t b (unw 0 s'.2.1 s'.2.2.2.2).1 0 s'.2.2.2.1 (unw 0 s'.2.1 s'.2.2.2.2).2 ∧ M'.1 (t + 29) r = nI (b + (unw 0 s'.2.1 s'.2.2.2.2).2.length)) := by
  intro k
  induction k with
  | zero => intro fu i M tk0 s f tk' s' _ _ _ _ _ _ _ h; cases h
  | succ k ih =>
    intro fu i M tk0 s f tk' s' hb hx h43 hat hi hf hp h
    obtain ⟨fu, rfl⟩ : ∃ f, fu = f + 1 := ⟨fu - 1, by omega⟩
    obtain ⟨hS, hR, ht, h31⟩ := id hb
    obtain ⟨M6, a1, a2, a3, a4⟩ := c_next hx hat h43
    have ok := tokS_ok (T := T) hat hn7
    generalize tokS T n tk0.2.2.2 = tk at a4 ok h
    have hb6 : cFb S M6.2.2 t := a2.symm ▸ hb
    have R6 : pRf M6.2.2 := a2.symm ▸ hR
    have P := cP hS hR
    have P6 := cP hS R6
    obtain ⟨p1, p2, p3, p4, p5, p6, p7, p8, p9, p10, p11⟩ := id hp
    have off6 : ∀ x y, ¬ x = 4 → M6.1 x y = M.1 x y := fun x y q => a3 x y (by unfold q43; omega)
    have hp6 : cFp M6.1 t b s.2.1 s.2.2.1 s.2.2.2.1 s.2.2.2.2 := ⟨(off6 3 7 (by omega)).trans p1, skP_cg (fun j _ => off6 42 j (by omega)) p2, (off6 3 8 (by omega)).trans p3, (off6 3 9 (by omega)).trans p4, (off6 (t + 21) 6 (by omega)).trans p5, lsP_cg (fun j _ _ => ⟨off6 (t + 23) j (by omega), off6 (t + 25) j (by omega)⟩) p6, p7, p8, p9, p10, p11⟩
    have hx6 : cTx S M6.2.2 M6.1 T n := a2.symm ▸ cTx_cg (fun x y q _ _ => a3 x y q) hx
    have c700 : ¬ 700 ≤ i := by omega
    have li700' : (700 : Int32) = nI 700 := rfl
    have k5 := a4.2.2.1
    have hsA : auR T n (k + 1) tk s = match stepA tk s with | .inl f => some (f, tk, s) | .inr s' => auR T n k (tokS T n tk.2.2.2) s' := rfl
    rw [hsA] at h
    have gD : ∀ (ρ : Type) (M' : zM) (f : Nat → Option ρ), M'.2.2 = M.2.2 → zgR S M' 3 3 10 1 f = f t := fun ρ M' f h => zgR_of ((hS 3 (by decide)).trans rfl) h31 M' f h
    by_cases stop : s.1 = false ∧ s.2.2.1 = 0 ∧ tk.1 = 5
    · obtain ⟨w, st, o, c, out⟩ := s
      obtain ⟨sw, so, st5⟩ := stop
      have sw' : w = false := sw
      have so' : o = 0 := so
      subst sw' so'
      have e9 : stepA tk (false, st, 0, c, out) = .inl 9 := by
        unfold stepA
        rw [if_neg Bool.false_ne_true, if_pos ⟨rfl, st5⟩]
      have c5' : nI tk.1 = 5 := by rw [st5]; rfl
      rw [e9] at h
      cases h
      obtain ⟨M10, b1, b2, b3, b4⟩ := c_unwind (r := 0) hb6 (by omega) hp6 (Or.inr rfl)
      have b1' : gX3_unwind S 3 0 M6 = some M10 := b1
      have hT := pTs_of hS R6 t (Or.inr ht)
      have F := tG hT
      have r10 : M10.2.2 = M.2.2 := b2.trans a2
      have hu := pLw_of hS (show pRf M10.2.2 by rw [r10]; exact hR) (t + 21) (by omega)
      obtain ⟨h0, -, -, -, r3, -, -, -, -, -, p7', -, -⟩ := hu
      have kn := b4.2.2.2.2.1
      have eg : gX1_end S (t + 21) (nI r) M10 = some (zsI M10 (t + 21 + 7 + 1) r (nI (b + (unw 0 st out).2.length))) := by
        unfold gX1_end
        rw [zgR_ok h0 r3, zgI_ok h0, zrc_ok p7'.1, kn, e_set p7' hr, Option.bind_some]
      refine ⟨1, zsI M10 (t + 21 + 7 + 1) r (nI (b + (unw 0 st out).2.length)), ?_, r10, fun x y q1 q2 q3 q4 => ?_, fun h => absurd rfl h, fun _ => ⟨rfl, ?_, ?_, ?_, zsI_at _ _ _ _⟩⟩
      · have w0 : bI (false, st, 0, c, out).1 = 0 := rfl
        have o0 : nI 0 = 0 := rfl
        have p3' : M6.1 3 8 = nI 0 := hp6.2.2.1
        have F10 := tG (pTs_of hS (show pRf M10.2.2 by rw [r10]; exact hR) t (Or.inr ht))
        simp (disch := first | omega | simp only [qI2, r10]) only [gX3_laws_89, li700', nI_leI, if_neg c700, ↓P, ↓bind_of a1, if_pos w0, ↓P6, p3', if_pos o0, k5, if_pos c5', ↓bind_of b1', ↓gD, ↓F10, ↓bind_of eg]
      · rw [zsI_ne (by omega), b3 x y q1]
        exact a3 x y q3
      · obtain ⟨z1, z2, z3, z4⟩ := a4
        exact ⟨by rw [zsI_ne (by omega), b3 4 3 (by unfold cFq; omega)]; exact z1, by rw [zsI_ne (by omega), b3 4 4 (by unfold cFq; omega)]; exact z2, by rw [zsI_ne (by omega), b3 4 5 (by unfold cFq; omega)]; exact z3, fun h => by rw [zsI_ne (by omega), b3 4 6 (by unfold cFq; omega)]; exact z4 h⟩
      · rw [zsI_ne (by omega), b3 3 2 (by unfold cFq; omega)]
        exact off6 3 2 (by omega)
      · obtain ⟨q1, q2, q3, q4, q5, q6, q7, q8, q9, q10, q11⟩ := b4
        exact ⟨by rw [zsI_ne (by omega)]; exact q1, skP_cg (fun j _ => by rw [zsI_ne (by omega)]) q2, by rw [zsI_ne (by omega)]; exact q3, by rw [zsI_ne (by omega)]; exact q4, by rw [zsI_ne (by omega)]; exact q5, lsP_cg (fun j _ _ => ⟨by rw [zsI_ne (by omega)], by rw [zsI_ne (by omega)]⟩) q6, q7, q8, q9, q10, q11⟩
    · have go : gX3_laws_89 S (fu + 1) 3 (nI r) (bI s.1) (nI i) M = gX3_laws_128 S (gX3_laws_89 S fu) 3 (nI r) (bI s.1) (nI i) M6 := by
        cases w : s.1 with
        | true =>
          simp (disch := first | omega | simp only [qI2, qL2, qC2, qF2]) only [gX3_laws_89, li700', nI_leI, if_neg c700, ↓P, ↓bind_of a1, if_neg bIt]
        | false =>
          by_cases o0 : s.2.2.1 = 0
          · have c5 : ¬ tk.1 = 5 := fun e => stop ⟨w, o0, e⟩
            have c5' : ¬ nI tk.1 = 5 := fun e => c5 ((nI_eq (b := 5) (by have := ok.1.1; omega) (by decide)).1 e)
            have o0' : nI s.2.2.1 = 0 := by rw [o0]; rfl
            have p3' := hp6.2.2.1
            simp (disch := first | omega | simp only [qI2, qL2, qC2, qF2]) only [gX3_laws_89, li700', nI_leI, if_neg c700, ↓P, ↓bind_of a1, bIf, if_true, ↓P6, p3', if_pos o0', k5, if_neg c5']
          · have o0' : ¬ nI s.2.2.1 = 0 := fun e => o0 ((nI_0e (by omega)).1 e)
            have p3' := hp6.2.2.1
            simp (disch := first | omega | simp only [qI2, qL2, qC2, qF2]) only [gX3_laws_89, li700', nI_leI, if_neg c700, ↓P, ↓bind_of a1, bIf, if_true, ↓P6, p3', if_neg o0']
      rw [go, c_128 hS R6 a4 ok]
      have fin : ∀ (g : zM → Option (Int32 × zM)) (v : Int32) (M' : zM) (w' : Bool), g M6 = some (v, M') → cSr M6 t b tk (stepA tk s) v M' → (∀ s1, stepA tk s = .inr s1 → s1.1 = w' ∧ tk.1 ≠ 0) → gX3_laws_185 S (gX3_laws_89 S fu) 3 (nI r) (bI s.1) (nI i) (bI (ptB tk)) (bI (sgB tk)) M6 = zrc S 3 3 10 (zb2 (g M6) (fun v1 M2 => (if v1 = 0 then some ((0 : Int32), M2) else gX3_laws_89 S fu 3 (nI r) (bI w') (nI (i + 1)) M2))) → ∃ (v : Int32) (M' : zM), gX3_laws_185 S (gX3_laws_89 S fu) 3 (nI r) (bI s.1) (nI i) (bI (ptB tk)) (bI (sgB tk)) M6 = some (v, M') ∧ M'.2.2 = M.2.2 ∧ (∀ x y, ¬ cFq t b x y → ¬ (x = 3 ∧ (y = 2 ∨ y = 3)) → ¬ q43 x y → ¬ (x = t + 29 ∧ y = r) → M'.1 x y = M.1 x y) ∧ (f ≠ 9 → v = 0 ∧ M'.1 3 2 = nI f ∧ M'.1 3 3 = nI tk'.2.2.1) ∧ (f = 9 → v = 1 ∧ cTk M'.1 tk' ∧ M'.1 3 2 = M.1 3 2 ∧ cFp M'.1 t b (unw 0 s'.2.1 s'.2.2.2.2).1 0 s'.2.2.2.1 (unw 0 s'.2.1 s'.2.2.2.2).2 ∧ M'.1 (t + 29) r = nI (b + (unw 0 s'.2.1 s'.2.2.2.2).2.length)) := by
        intro g v M' w' hg hsr hw hgo
        obtain ⟨z1, z2, z3, z4⟩ := hsr
        have hrc : ∀ (o : Option (Int32 × zM)), zrc S 3 3 10 o = o := fun o => zrc_ok ((hS 3 (by decide)).trans rfl)
        cases hst : stepA tk s with
        | inl f2 =>
          rw [hst] at h
          cases h
          obtain ⟨v0, y2, y3⟩ := z3 _ hst
          subst v0
          have f9 : f ≠ 9 := by
            intro e
            subst e
            unfold stepA at hst
            split at hst
            · rename_i hw1
              unfold beA at hst
              repeat' split at hst
              all_goals cases hst
            · rename_i hw1
              split at hst
              · rename_i h2
                apply stop
                refine ⟨?_, h2.1, h2.2⟩
                cases q : s.1 with
                | true => exact absurd q hw1
                | false => rfl
              · unfold enA enB at hst
                repeat' split at hst
                all_goals cases hst
          refine ⟨0, M', ?_, z1.trans a2, fun x y q1 q2 q3 q4 => ?_, fun _ => ⟨rfl, y2, y3⟩, fun e => absurd e f9⟩
          · rw [hgo, hrc, zb2_of hg, if_pos rfl]
          · rw [z2 x y q1 q2]
            exact a3 x y q3
        | inr s1 =>
          rw [hst] at h
          obtain ⟨v1, y2, y3⟩ := z4 _ hst
          subst v1
          obtain ⟨hw1, hk0⟩ := hw s1 hst
          have n10 : ¬ (1 : Int32) = 0 := by decide
          obtain ⟨okp1, okp2⟩ := ok.2.1 hk0
          have hb1 : cFb S M'.2.2 t := by rw [z1]; exact hb6
          have hx1 : cTx S M'.2.2 M'.1 T n := by
            rw [z1]
            exact cTx_cg (fun x y q q2 q3 => z2 x y (by unfold cFq; omega) (by omega)) hx6
          have h43' : M'.1 4 3 = nI tk.2.2.2 := (z2 4 3 (by unfold cFq; omega) (by omega)).trans a4.1
          obtain ⟨v2, M2, d1, d2, d3, d4, d5⟩ := ih fu (i + 1) M' tk s1 f tk' s' hb1 hx1 h43' ok.1.2.2.2.2 (by have := ok.1.2.2.1; omega) (by omega) y2 h
          refine ⟨v2, M2, ?_, d2.trans (z1.trans a2), fun x y q1 q2 q3 q4 => ?_, d4, fun e => ?_⟩
          · rw [hgo, hrc, zb2_of hg, if_neg n10, ← hw1]
            exact d1
          · rw [d3 x y q1 q2 q3 q4, z2 x y q1 q2]
            exact a3 x y q3
          · obtain ⟨g1, g2, g3, g4, g5⟩ := d5 e
            exact ⟨g1, g2, g3.trans (y3.trans (off6 3 2 (by omega))), g4, g5⟩
      cases w : s.1 with
      | true =>
        have est : stepA tk s = beA tk s.2.1 s.2.2.1 s.2.2.2.1 s.2.2.2.2 := by unfold stepA; rw [if_pos w]
        obtain ⟨v, M', e1, e2⟩ := c_begins hb6 hp6 a4 ok
        rw [← est] at e2
        rw [← w]
        refine fin (gX3_beginsPart S 3) v M' (!(ptB tk)) e1 e2 (fun s1 h1 => beA_w (est ▸ h1)) ?_
        rw [w]
        simp (disch := first | omega | simp only [qI2, qL2, qC2, qF2]) only [gX3_laws_185, if_neg bIt, gX3_laws_210, nI_1]
        cases ptB tk <;> rfl
      | false =>
        have est : stepA tk s = enA tk s.2.1 s.2.2.1 s.2.2.2.1 s.2.2.2.2 := by
          unfold stepA
          rw [if_neg (by rw [w]; exact Bool.false_ne_true), if_neg (fun h => stop ⟨w, h.1, h.2⟩)]
        obtain ⟨v, M', e1, e2⟩ := c_ends hb6 hp6 a4 ok
        rw [← est] at e2
        rw [← w]
        refine fin (gX3_endsPart S 3) v M' (sgB tk) e1 e2 (fun s1 h1 => enA_w (est ▸ h1)) ?_
        rw [w]
        simp (disch := first | omega | simp only [qI2, qL2, qC2, qF2]) only [gX3_laws_185, bIf, if_true, gX3_laws_210, nI_1]
