/-! pure part 75: lines: what comes of them is well formed -/
def nBi : List Nat → Nat
  | [] => 0
  | k :: st => (if k = 2 ∨ k = 5 then 0 else 1) + nBi st
def aIv (b : Nat) (s : zAu) : Prop := dep s.2.2.2.2 0 = some (nBi s.2.1 + (if s.1 then 0 else 1)) ∧ kOk s.2.1 ∧ nPa s.2.1 = s.2.2.1 ∧ s.2.2.2.1 = b + s.2.2.2.2.length + nOp s.2.1 ∧ s.2.2.2.1 ≤ 64
theorem dep_1 {L : List (Nat × Int32)} {d e : Nat} {kv : Nat × Int32} (h : dep L d = some e) : dep (L ++ [kv]) d = dep [kv] e := dep_app h
theorem unw_iv {r : Nat} : ∀ {st : List Nat} {out : List (Nat × Int32)}, kOk st → (1 ≤ r ∨ nPa st = 0) → dep out 0 = some (nBi st + 1) → dep (unw r st out).2 0 = some (nBi (unw r st out).1 + 1) ∧ kOk (unw r st out).1 ∧ nPa (unw r st out).1 = nPa st ∧ (unw r st out).2.length + nOp (unw r st out).1 = out.length + nOp st
  | [], out, _, _, h => ⟨h, trivial, rfl, rfl⟩
  | k :: st, out, hk, hr, h => by
    show dep (if r ≤ rkN k then unw r st (out ++ [(k, 0)]) else (k :: st, out)).2 0 = some (nBi (if r ≤ rkN k then unw r st (out ++ [(k, 0)]) else (k :: st, out)).1 + 1) ∧ kOk (if r ≤ rkN k then unw r st (out ++ [(k, 0)]) else (k :: st, out)).1 ∧ nPa (if r ≤ rkN k then unw r st (out ++ [(k, 0)]) else (k :: st, out)).1 = nPa (k :: st) ∧ (if r ≤ rkN k then unw r st (out ++ [(k, 0)]) else (k :: st, out)).2.length + nOp (if r ≤ rkN k then unw r st (out ++ [(k, 0)]) else (k :: st, out)).1 = out.length + nOp (k :: st)
    by_cases q : r ≤ rkN k
    · rw [if_pos q]
      have k2 : k ≠ 2 := fun e => by
        subst e
        have n0 : nPa (2 :: st) = 1 + nPa st := rfl
        have n1 : rkN 2 = 0 := rfl
        omega
      have np : nPa (k :: st) = nPa st := by
        show (if k = 2 then 1 else 0) + nPa st = nPa st
        rw [if_neg k2, Nat.zero_add]
      have no : nOp (k :: st) = 1 + nOp st := by
        show (if k = 2 then 0 else 1) + nOp st = 1 + nOp st
        rw [if_neg k2]
      have hk1 := hk.1
      have hd : dep (out ++ [(k, 0)]) 0 = some (nBi st + 1) := by
        rw [dep_1 h]
        show (if k = 0 ∨ k = 1 then dep [] (nBi (k :: st) + 1 + 1) else if k = 5 then (if 1 ≤ nBi (k :: st) + 1 then dep [] (nBi (k :: st) + 1) else none) else if 2 ≤ nBi (k :: st) + 1 then dep [] (nBi (k :: st) + 1 - 1) else none) = some (nBi st + 1)
        rw [if_neg (by omega)]
        by_cases k5 : k = 5
        · have nb : nBi (k :: st) = nBi st := by
            show (if k = 2 ∨ k = 5 then 0 else 1) + nBi st = nBi st
            rw [if_pos (Or.inr k5), Nat.zero_add]
          rw [if_pos k5, if_pos (by omega), nb]
          rfl
        · have nb : nBi (k :: st) = 1 + nBi st := by
            show (if k = 2 ∨ k = 5 then 0 else 1) + nBi st = 1 + nBi st
            rw [if_neg (by omega)]
          rw [if_neg k5, if_pos (by omega), nb]
          show some (1 + nBi st + 1 - 1) = _
          congr 1
          omega
      obtain ⟨a, b, c, d⟩ := unw_iv (r := r) (st := st) (out := out ++ [(k, 0)]) hk.2 (by omega) hd
      exact ⟨a, b, c.trans np.symm, by rw [d, len_app, no]; omega⟩
    · rw [if_neg q]
      exact ⟨h, hk, rfl, rfl⟩
theorem step_iv {b : Nat} {tk : zTk} {s s' : zAu} {n a : Nat} (ho : tkOk n a tk) (h : aIv b s) (hs : stepA tk s = .inr s') : aIv b s' := by
  obtain ⟨w, st, o, c, out⟩ := s
  obtain ⟨h1, h2, h3, h4, h5⟩ := h
  have h1' : dep out 0 = some (nBi st + (if w then 0 else 1)) := h1
  have h3' : nPa st = o := h3
  have h4' : c = b + out.length + nOp st := h4
  have h5' : c ≤ 64 := h5
  have h2' : kOk st := h2
  cases w with
  | true =>
    have hs' : beA tk st o c out = .inr s' := hs
    have h0 : dep out 0 = some (nBi st) := h1'
    unfold beA at hs'
    by_cases c4 : tk.1 = 4
    · rw [if_pos c4] at hs'
      by_cases x1 : 9999 < tk.2.1
      · rw [if_pos x1] at hs'; cases hs'
      rw [if_neg x1] at hs'
      by_cases x2 : 64 ≤ c
      · rw [if_pos x2] at hs'; cases hs'
      rw [if_neg x2] at hs'
      injection hs' with e
      subst e
      exact ⟨by show dep (out ++ [(0, nI tk.2.1)]) 0 = some (nBi st + 1); rw [dep_1 h0]; rfl, h2', h3', by show c + 1 = b + (out ++ [(0, nI tk.2.1)]).length + nOp st; rw [len_app]; omega, by show c + 1 ≤ 64; omega⟩
    rw [if_neg c4] at hs'
    by_cases c3 : tk.1 = 3 ∧ 13 ≤ tk.2.1
    · rw [if_pos c3] at hs'
      by_cases x2 : 64 ≤ c
      · rw [if_pos x2] at hs'; cases hs'
      rw [if_neg x2] at hs'
      injection hs' with e
      subst e
      exact ⟨by show dep (out ++ [(1, nI (tk.2.1 - 13))]) 0 = some (nBi st + 1); rw [dep_1 h0]; rfl, h2', h3', by show c + 1 = b + (out ++ [(1, nI (tk.2.1 - 13))]).length + nOp st; rw [len_app]; omega, by show c + 1 ≤ 64; omega⟩
    rw [if_neg c3] at hs'
    by_cases c6 : tk.1 = 6
    · rw [if_pos c6] at hs'
      by_cases x2 : 8 ≤ o
      · rw [if_pos x2] at hs'; cases hs'
      rw [if_neg x2] at hs'
      injection hs' with e
      subst e
      refine ⟨?_, ⟨⟨by omega, by omega⟩, h2'⟩, ?_, ?_, h5'⟩
      · show dep out 0 = some ((if 2 = 2 ∨ 2 = 5 then 0 else 1) + nBi st)
        rw [if_pos (Or.inl rfl), Nat.zero_add]; exact h0
      · show (if 2 = 2 then 1 else 0) + nPa st = o + 1
        rw [if_pos rfl]; omega
      · show c = b + out.length + ((if 2 = 2 then 0 else 1) + nOp st)
        rw [if_pos rfl]; omega
    rw [if_neg c6] at hs'
    by_cases c8 : (tk.1 = 8 ∧ tk.2.1 = 5) ∧ topR st ≤ 3
    · rw [if_pos c8] at hs'
      by_cases x2 : 64 ≤ c
      · rw [if_pos x2] at hs'; cases hs'
      rw [if_neg x2] at hs'
      injection hs' with e
      subst e
      refine ⟨?_, ⟨⟨by omega, by omega⟩, h2'⟩, ?_, ?_, by show c + 1 ≤ 64; omega⟩
      · show dep out 0 = some ((if 5 = 2 ∨ 5 = 5 then 0 else 1) + nBi st)
        rw [if_pos (Or.inr rfl), Nat.zero_add]; exact h0
      · show (if 5 = 2 then 1 else 0) + nPa st = o
        rw [if_neg (by omega)]; omega
      · show c + 1 = b + out.length + ((if 5 = 2 then 0 else 1) + nOp st)
        rw [if_neg (by omega)]; omega
    · rw [if_neg c8] at hs'; cases hs'
  | false =>
    have h0 : dep out 0 = some (nBi st + 1) := h1'
    have hs' : (if o = 0 ∧ tk.1 = 5 then .inl 9 else enA tk st o c out) = .inr s' := hs
    by_cases x0 : o = 0 ∧ tk.1 = 5
    · rw [if_pos x0] at hs'; cases hs'
    rw [if_neg x0] at hs'
    unfold enA at hs'
    by_cases c7 : tk.1 = 7 ∧ 0 < o
    · rw [if_pos c7] at hs'
      injection hs' with e
      subst e
      obtain ⟨a1, a2, a3, a4⟩ := unw_iv (r := 1) h2' (Or.inl (Nat.le_refl _)) h0
      rcases unw_1 (out := out) h2' with q | ⟨st', q⟩
      · rw [q] at a3
        have : nPa [] = 0 := rfl
        omega
      · rw [q] at a1 a2 a3 a4
        have e1 : nBi (2 :: st') = nBi st' := by
          show (if 2 = 2 ∨ 2 = 5 then 0 else 1) + nBi st' = nBi st'
          rw [if_pos (Or.inl rfl), Nat.zero_add]
        have e2 : nPa (2 :: st') = 1 + nPa st' := by
          show (if 2 = 2 then 1 else 0) + nPa st' = 1 + nPa st'
          rw [if_pos rfl]
        have e3 : nOp (2 :: st') = nOp st' := by
          show (if 2 = 2 then 0 else 1) + nOp st' = nOp st'
          rw [if_pos rfl, Nat.zero_add]
        refine ⟨?_, ?_, ?_, ?_, h5'⟩
        · show dep (unw 1 st out).2 0 = some (nBi (unw 1 st out).1.tail + 1)
          rw [q]
          show dep (unw 1 st out).2 0 = some (nBi st' + 1)
          rw [← e1]; exact a1
        · show kOk (unw 1 st out).1.tail
          rw [q]; exact a2.2
        · show nPa (unw 1 st out).1.tail = o - 1
          rw [q]
          show nPa st' = o - 1
          omega
        · show c = b + (unw 1 st out).2.length + nOp (unw 1 st out).1.tail
          rw [q]
          show c = b + (unw 1 st out).2.length + nOp st'
          omega
    rw [if_neg c7] at hs'
    by_cases c8 : tk.1 = 8 ∧ tk.2.1 ≠ 5
    · rw [if_pos c8] at hs'
      have v8 := ho.2.2.1 c8.1
      generalize hr : (if rkN tk.2.1 = 4 then 5 else rkN tk.2.1) = r at hs'
      have r1 : 1 ≤ r := by
        have := rk_sign v8.1 v8.2
        rw [← hr]
        split <;> omega
      obtain ⟨a1, a2, a3, a4⟩ := unw_iv (r := r) h2' (Or.inl r1) h0
      unfold enB at hs'
      by_cases y1 : rkN tk.2.1 = 4 ∧ topR (unw r st out).1 = 4
      · rw [if_pos y1] at hs'; cases hs'
      rw [if_neg y1] at hs'
      by_cases y2 : 64 ≤ c
      · rw [if_pos y2] at hs'; cases hs'
      rw [if_neg y2] at hs'
      injection hs' with e
      subst e
      refine ⟨?_, ⟨⟨by omega, by omega⟩, a2⟩, ?_, ?_, by show c + 1 ≤ 64; omega⟩
      · show dep (unw r st out).2 0 = some ((if tk.2.1 = 2 ∨ tk.2.1 = 5 then 0 else 1) + nBi (unw r st out).1)
        rw [if_neg (by omega), a1, Nat.add_comm]
      · show (if tk.2.1 = 2 then 1 else 0) + nPa (unw r st out).1 = o
        rw [if_neg (by omega)]; omega
      · show c + 1 = b + (unw r st out).2.length + ((if tk.2.1 = 2 then 0 else 1) + nOp (unw r st out).1)
        rw [if_neg (by omega)]; omega
    · rw [if_neg c8] at hs'; cases hs'
theorem tkOk_w {n a a' : Nat} {tk : zTk} (h : tkOk n a tk) (ha : a' ≤ a) : tkOk n a' tk := ⟨⟨h.1.1, h.1.2.1, Nat.le_trans ha h.1.2.2.1, h.1.2.2.2⟩, h.2⟩
theorem nxk_a {T : Nat → Nat} {n : Nat} {tk : zTk} (hn : n ≤ 700) (h : tkOk n 0 tk) : ∀ k, tkOk n tk.2.2.2 (nxk T n (k + 1) tk)
  | 0 => tokS_ok h.1.2.2.2.2 hn
  | k + 1 => by
    have a := nxk_a (T := T) hn h k
    exact tkOk_w (tokS_ok a.1.2.2.2.2 hn) (by have := a.1.2.2.1; have := a.1.2.2.2.1; omega)
theorem auR_iv {T : Nat → Nat} {n b a : Nat} (hn : n ≤ 700) : ∀ {k : Nat} {tk : zTk} {s : zAu} {f : Nat} {tk' : zTk} {s' : zAu}, tkOk n a tk → aIv b s → auR T n k tk s = some (f, tk', s') → tkOk n a tk' ∧ aIv b s' ∧ stepA tk' s' = .inl f
  | 0, _, _, _, _, _, _, _, h => by cases h
  | k + 1, tk, s, f, tk', s', ho, hi, h => by
    have h' : (match stepA tk s with | .inl f => some (f, tk, s) | .inr s' => auR T n k (tokS T n tk.2.2.2) s') = some (f, tk', s') := h
    cases hs : stepA tk s with
    | inl g =>
      rw [hs] at h'
      cases h'
      exact ⟨ho, hi, hs⟩
    | inr s1 =>
      rw [hs] at h'
      exact auR_iv hn (tkOk_w (tokS_ok (T := T) ho.1.2.2.2.2 hn) (by have := ho.1.2.2.1; have := ho.1.2.2.2.1; omega)) (step_iv ho hi hs) h'
theorem stop_iv {b : Nat} {tk : zTk} {s : zAu} (h : aIv b s) (hs : stepA tk s = .inl 9) : dep (unw 0 s.2.1 s.2.2.2.2).2 0 = some 1 ∧ b + (unw 0 s.2.1 s.2.2.2.2).2.length ≤ 64 ∧ tk.1 = 5 := by
  obtain ⟨w, st, o, c, out⟩ := s
  obtain ⟨h1, h2, h3, h4, h5⟩ := h
  cases w with
  | true =>
    exfalso
    have hs' : beA tk st o c out = .inl 9 := hs
    unfold beA at hs'
    repeat' split at hs'
    all_goals cases hs'
  | false =>
    have hs' : (if o = 0 ∧ tk.1 = 5 then .inl 9 else enA tk st o c out) = .inl 9 := hs
    by_cases x0 : o = 0 ∧ tk.1 = 5
    · have h3' : nPa st = o := h3
      have h4' : c = b + out.length + nOp st := h4
      have h5' : c ≤ 64 := h5
      obtain ⟨a1, a2, a3, a4⟩ := unw_iv (r := 0) (st := st) (out := out) h2 (Or.inr (by omega)) h1
      rw [unw_0] at a1 a4
      have e0 : nOp [] = 0 := rfl
      exact ⟨a1, by show b + (unw 0 st out).2.length ≤ 64; omega, x0.2⟩
    · exfalso
      rw [if_neg x0] at hs'
      unfold enA enB at hs'
      repeat' split at hs'
      all_goals cases hs'
theorem okL_chk {n a c : Nat} {tk : zTk} {k : zLr} (h : c = 0 → okL n a k) : okL n a (chk c tk k) := by
  unfold chk
  by_cases e : c = 0
  · rw [if_pos e]; exact h e
  · rw [if_neg e]; intro tk E sl sd h; cases h
theorem okL_l {n a : Nat} {e : Nat × Nat} : okL n a (.inl e) := fun tk E sl sd h => by cases h
theorem okL_r {n a : Nat} {tk : zTk} {E : zEn} {sl sd : Bool} (h1 : tkOk n a tk) (h2 : wfE E) : okL n a (.inr (tk, E, sl, sd)) := fun tk' E' sl' sd' h => by cases h; exact ⟨h1, h2⟩
theorem ok_knd {T : Nat → Nat} {n : Nat} {tk : zTk} {E : zEn} {sl sd : Bool} (hn : n ≤ 700) (ho : tkOk n 0 tk) (wE : wfE E) : okL n tk.2.2.2 (kndL T n tk E sl sd) := by
  have o := nxk_a (T := T) hn ho
  unfold kndL
  by_cases c0 : tk.2.1 = 0
  · rw [if_pos c0]
    unfold lnT
    by_cases c6 : 6 ≤ eT E
    · rw [if_pos c6]; exact okL_l
    · rw [if_neg c6]
      exact okL_chk (fun _ => okL_chk (fun h2 => okL_chk (fun h3 => okL_r (o 3) (wf_adT wE (by omega) (nb_4 h2).2.2 (nb_4 h3).2.2))))
  rw [if_neg c0]
  by_cases c1 : tk.2.1 = 1
  · rw [if_pos c1]
    unfold lnP
    by_cases c6 : 12 ≤ eP E
    · rw [if_pos c6]; exact okL_l
    · rw [if_neg c6]
      refine okL_chk (fun h1 => ?_)
      obtain ⟨_, j, hj⟩ := tr_2 h1
      have := (fnd_some hj).2.1
      rw [hj]
      exact okL_r (o 1) (wf_adP wE (by omega) (by show j < eT E; omega))
  rw [if_neg c1]
  by_cases c2 : tk.2.1 = 2
  · rw [if_pos c2]
    unfold lnC
    by_cases c6 : 10 ≤ eC E
    · rw [if_pos c6]; exact okL_l
    · rw [if_neg c6]
      refine okL_chk (fun h1 => okL_chk (fun h2 => ?_))
      obtain ⟨_, j, hj⟩ := tr_2 h1
      have hjT := (fnd_some hj).2.1
      have hd := (nb_4 h2).2.2
      rw [hj]
      cases eCl E (nxk T n 2 tk).2.1 with
      | some x => exact okL_l
      | none => exact okL_r (o 2) (wf_adC wE (by omega) (by show j < eT E; omega) (by omega))
  rw [if_neg c2]
  by_cases c3 : tk.2.1 = 3
  · rw [if_pos c3]
    unfold lnW
    by_cases c6 : 5 ≤ eW E
    · rw [if_pos c6]; exact okL_l
    · rw [if_neg c6]
      exact okL_chk (fun _ => okL_chk (fun _ => okL_chk (fun _ => okL_chk (fun h4 => okL_r (o 4) (wf_adW wE (by omega) (nb_4 h4).2.1 (nb_4 h4).2.2)))))
  rw [if_neg c3]
  by_cases c4 : tk.2.1 = 4
  · rw [if_pos c4]
    unfold lnS
    cases sl with
    | true => exact okL_l
    | false => exact okL_chk (fun h1 => okL_r (o 1) (wf_adS wE (nb_4 h1).2.2))
  rw [if_neg c4]
  by_cases c5 : tk.2.1 = 5
  · rw [if_pos c5]
    unfold lnD
    cases sd with
    | true => exact okL_l
    | false => exact okL_chk (fun h1 => okL_r (o 1) (wf_adD wE (nI_pos (by have := (nb_4 h1).2.2; omega))))
  rw [if_neg c5]
  unfold lnR
  by_cases d1 : (nxk T n 1 tk).1 = 3 ∧ 7 ≤ (nxk T n 1 tk).2.1 ∧ (nxk T n 1 tk).2.1 < 10
  · rw [if_pos d1]
    by_cases d2 : eRu E ((nxk T n 1 tk).2.1 - 7) = []
    · rw [if_pos d2]
      cases q : auR T n (n + 2) (nxk T n 2 tk) (true, [], 0, eK E, []) with
      | none => exact okL_l
      | some x =>
        obtain ⟨f, tk', s'⟩ := x
        dsimp only
        by_cases f9 : f = 9
        · obtain ⟨a1, a2, a3⟩ := auR_iv (b := eK E) hn (o 1) (show aIv (eK E) (true, [], 0, eK E, []) from ⟨rfl, trivial, rfl, rfl, wE.2.2.2.2.2.1⟩) q
          rw [f9] at a3
          obtain ⟨b1, b2, b3⟩ := stop_iv a2 a3
          rw [if_pos f9]
          exact okL_r a1 (wf_adR wE b2 b1)
        · rw [if_neg f9]; exact okL_l
    · rw [if_neg d2]; exact okL_l
  · rw [if_neg d1]; exact okL_l
theorem ok_line {T : Nat → Nat} {n : Nat} {tk : zTk} {E : zEn} {sl sd : Bool} (hn : n ≤ 700) (ho : tkOk n 0 tk) (wE : wfE E) : okL n tk.2.2.2 (lineS T n tk E sl sd) := by
  unfold lineS
  by_cases c : tk.1 = 3 ∧ tk.2.1 ≤ 6
  · rw [if_pos c]
    have h := ok_knd (T := T) (sl := sl) (sd := sd) hn ho wE
    cases q : kndL T n tk E sl sd with
    | inl e => exact okL_l
    | inr x =>
      obtain ⟨tk', E', sl', sd'⟩ := x
      obtain ⟨a, b⟩ := h tk' E' sl' sd' q
      show okL n tk.2.2.2 (if tk'.1 = 5 then .inr (nxk T n 1 tk', E', sl', sd') else .inl (1, tk'.2.2.1))
      by_cases c5 : tk'.1 = 5
      · rw [if_pos c5]; exact okL_r (tkOk_w (tokS_ok (T := T) (n := n) (a := tk'.2.2.2) a.1.2.2.2.2 hn) (show tk.2.2.2 ≤ tk'.2.2.2 by have := a.1.2.2.1; have := a.1.2.2.2.1; omega)) b
      · rw [if_neg c5]; exact okL_l
  · rw [if_neg c]; exact okL_l
