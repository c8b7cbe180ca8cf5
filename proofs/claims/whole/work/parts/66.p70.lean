/-! pure part 70: formulas: the model's other levels -/
theorem mFp_t {S : List (Nat × Nat)} {M : zM} {T : Nat → Nat} {n b o c : Nat} {tk : zTk} {out : List (Nat × Int32)} (h : mFp S M T n b tk o c out) : pMs S M.2.2 ∧ M.1 306 24 = 0 ∧ M.1 306 29 = nI c ∧ M.1 306 21 = nI tk.2.2.1 ∧ mSv tk.1 tk.2.1 (M.1 306 22) (M.1 306 23) := ⟨h.1.1, h.2.2.1, h.2.2.2.2.1, h.2.1.2.1, h.2.1.2.2⟩
theorem rk_v {v : Nat} (h1 : 3 ≤ v) (h2 : v ≤ 15) : (rkN v = 6 ↔ 14 ≤ v) ∧ (rkN v = 5 ↔ (12 ≤ v ∧ v ≤ 13)) ∧ (rkN v = 4 ↔ (6 ≤ v ∧ v ≤ 11)) ∧ (rkN v = 3 ↔ v = 5) ∧ (rkN v = 2 ↔ v = 4) ∧ (rkN v = 1 ↔ v = 3) := by
  rcases (show v = 3 ∨ v = 4 ∨ v = 5 ∨ v = 6 ∨ v = 7 ∨ v = 8 ∨ v = 9 ∨ v = 10 ∨ v = 11 ∨ v = 12 ∨ v = 13 ∨ v = 14 ∨ v = 15 by omega) with rfl | rfl | rfl | rfl | rfl | rfl | rfl | rfl | rfl | rfl | rfl | rfl | rfl <;> decide
theorem loop_ok {S : List (Nat × Nat)} {T : Nat → Nat} {n b o m l l' prs : Nat} {nt : Bool} {sub : zM → Option zM} {G : Nat → zM → Option zM} (hn7 : n ≤ 700) (hl : l = 1 ∨ l = 2 ∨ l = 5 ∨ l = 6) (hll : l ≤ l') (hpr : l < prs) (hnt : nt = true → 3 < l) (hsub : LvOK S T n b o m l' prs nt sub) (hsubd : ∀ M : zM, pMs S M.2.2 → ¬ M.1 306 24 = 0 → sub M = some M)
    (hin : ∀ (fu : Nat) (M : zM) (tk : zTk) (c : Nat) (out : List (Nat × Int32)), mFp S M T n b tk o c out → tkOk n 0 tk → tk.1 = 8 → rkN tk.2.1 = l → G (fu + 1) M = (gX12_knot S 306 M).bind (fun M2 => (gX12_goOn S 306 M2).bind (fun M3 => (sub M3).bind (fun M4 => (gX12_puts S 306 2 (nI (cdM tk.2.1)) M4).bind (fun M5 => G fu M5)))))
    (hout : ∀ (fu : Nat) (M : zM) (tk : zTk) (c : Nat) (out : List (Nat × Int32)), mFp S M T n b tk o c out → tkOk n 0 tk → ¬ (tk.1 = 8 ∧ rkN tk.2.1 = l) → G (fu + 1) M = some M) (hdead : ∀ (fu : Nat) (M : zM), pMs S M.2.2 → ¬ M.1 306 24 = 0 → G (fu + 1) M = some M)
    (hbk : ∀ (tk : zTk) (st : List Nat) (out : List (Nat × Int32)), tkOk n 0 tk → bkP l' tk st out → ¬ (tk.1 = 8 ∧ rkN tk.2.1 = l) → bkP l tk st out) {M0 : zM} {tk0 : zTk} {st : List Nat} {c0 : Nat} {out : List (Nat × Int32)} (hst : topR st < l) (h0 : tkOk n 0 tk0) (hm : n ≤ tk0.2.2.1 + m) :
    ∀ (r fu : Nat) (M : zM) (k : Nat) (tk : zTk) (pend : List Nat) (c : Nat) (seg Lp : List (Nat × Int32)), aIt T n k tk0 (true, st, o, c0, out) = some (tk, (false, pend ++ st, o, c, Lp)) → (∀ x, x ∈ pend → l ≤ rkN x) → Lp ++ pend.map sgK = out ++ seg → (∀ d, dep seg d = some (d + 1)) → bkP l' tk (pend ++ st) Lp → mFp S M T n b tk o c (out ++ seg) → c = b + (out ++ seg).length + nOp st → c ≤ 64 → tkOk n tk0.2.2.2 tk → M.2.2 = M0.2.2 → (∀ x y, ¬ mFq b x y → M.1 x y = M0.1 x y) → n ≤ tk.2.2.1 + r → r < fu → ∃ M', G fu M = some M' ∧ mO S T n b l M0 tk0 st o c0 out M' := by
  intro r
  induction r with
  | zero =>
    intro fu M k tk pend c seg Lp g1 g2 g3 g4 g5 g6 g7 g8 g9 hMR hI hr hf
    obtain ⟨fu, rfl⟩ : ∃ f, fu = f + 1 := ⟨fu - 1, by omega⟩
    have ni : ¬ (tk.1 = 8 ∧ rkN tk.2.1 = l) := fun h => by
      have := (g9.2.1 (by omega)).1
      omega
    exact ⟨M, hout fu M tk c _ g6 (tkOk_0 g9) ni, hMR, hI, Or.inr ⟨k, tk, pend, c, seg, Lp, g1, g2, g3, g4, hbk tk _ _ (tkOk_0 g9) g5 ni, g6, g7, g8, g9⟩⟩
  | succ r ih =>
    intro fu M k tk pend c seg Lp g1 g2 g3 g4 g5 g6 g7 g8 g9 hMR hI hr hf
    obtain ⟨fu, rfl⟩ : ∃ f, fu = f + 2 := ⟨fu - 2, by omega⟩
    by_cases ni : tk.1 = 8 ∧ rkN tk.2.1 = l
    rotate_left
    · exact ⟨M, hout (fu + 1) M tk c _ g6 (tkOk_0 g9) ni, hMR, hI, Or.inr ⟨k, tk, pend, c, seg, Lp, g1, g2, g3, g4, hbk tk _ _ (tkOk_0 g9) g5 ni, g6, g7, g8, g9⟩⟩
    · obtain ⟨c8, rl⟩ := ni
      obtain ⟨hS, h24, h29, h21, tsv⟩ := mFp_t g6
      have v8 := g9.2.2.1 c8
      have rv := rk_v v8.1 v8.2
      have kp := g9.2.1 (by omega)
      have v5 : tk.2.1 ≠ 5 := fun e => by have := rv.2.2.2.1.2 e; omega
      have un : unw l (pend ++ st) Lp = (st, out ++ seg) := by
        rw [unw_app g2, g3]
        exact unw_stop hst
      have ss : stepA tk (false, pend ++ st, o, c, Lp) = if 64 ≤ c then .inl 2 else .inr (true, tk.2.1 :: st, o, c + 1, out ++ seg) := by
        show (if false = true then _ else if o = 0 ∧ tk.1 = 5 then _ else enA tk (pend ++ st) o c Lp) = _
        rw [if_neg Bool.false_ne_true, if_neg (by omega)]
        unfold enA
        rw [if_neg (by omega), if_pos ⟨c8, v5⟩, if_neg (show ¬ rkN tk.2.1 = 4 by omega), rl, un]
        unfold enB
        rw [if_neg (by omega)]
      rw [hin (fu + 1) M tk c _ g6 (tkOk_0 g9) c8 rl]
      by_cases h6 : 64 ≤ c
      · have c64 : c = 64 := by omega
        rw [if_pos h6] at ss
        have dk := m_knotF (tk := tk) hS h24 h21 (by rw [h29, c64])
        have hS1 : pMs S (zsI (zsI M 306 24 2) 306 25 (nI tk.2.2.1)).2.2 := hS
        have dd : ¬ (zsI (zsI M 306 24 2) 306 25 (nI tk.2.2.1)).1 306 24 = 0 := by rw [zsI_ne (by omega), zsI_at]; decide
        refine ⟨zsI (zsI M 306 24 2) 306 25 (nI tk.2.2.1), ?_, hMR, fun x y q => (mFq_w x y q).trans (hI x y q), Or.inl ⟨k, tk, _, 2, g1, ss, Or.inr rfl, by rw [zsI_ne (by omega), zsI_at]; rfl, zsI_at _ _ _ _⟩⟩
        rw [bind_of dk, bind_of (d_goOn hS1 dd), bind_of (hsubd _ hS1 dd), bind_of (d_puts hS1 dd _ _)]
        exact hdead fu _ hS1 dd
      · rw [if_neg h6] at ss
        have dk := m_knotO hS h24 h29 (by omega)
        obtain ⟨M3, a1, -, a2, a3, a4⟩ := mF_goOn (mFp_kn g6) (tkOk_0 g9)
        have nk := tokS_ok (T := T) (n := n) (a := tk.2.2.2) g9.1.2.2.2.2 hn7
        have nop : nOp (tk.2.1 :: st) = 1 + nOp st := by
          show (if tk.2.1 = 2 then 0 else 1) + nOp st = 1 + nOp st
          rw [if_neg (by omega)]
        obtain ⟨M4, b1, b2, b3, b4⟩ := hsub M3 (tokS T n tk.2.2.2) (tk.2.1 :: st) (c + 1) (out ++ seg) a4 (tkOk_0 nk) (by rw [nop]; omega) (by omega) (by show rkN tk.2.1 < prs; omega) (fun h1 _ _ => by show 3 < rkN tk.2.1; have := hnt h1; omega) (by have := nk.1.2.2.1; have := g9.1.2.2.1; have := h0.1.2.2.2.1; omega)
        have r4 : M4.2.2 = M0.2.2 := b2.trans (a2.trans hMR)
        have f4 : ∀ x y, ¬ mFq b x y → M4.1 x y = M0.1 x y := fun x y q => by rw [b3 x y q, a3 x y q, zsI_ne (by unfold mFq at q; omega)]; exact hI x y q
        have hS4 : pMs S M4.2.2 := by rw [r4, ← hMR]; exact hS
        have it1 := aIt_a g1 (aIt_1 ss)
        rw [bind_of dk, bind_of a1, bind_of b1]
        rcases b4 with b4 | b4
        · have dd := mFa_dead b4
          refine ⟨M4, ?_, r4, f4, Or.inl (mFa_pre it1 b4)⟩
          rw [bind_of (d_puts hS4 dd _ _)]
          exact hdead fu _ hS4 dd
        · obtain ⟨k2, tk2, pend2, c2, seg2, Lp2, q1, q2, q3, q4, q5, q6, q7, q8, q9⟩ := b4
          rw [nop] at q7
          obtain ⟨M5, p1, p2, p3, p4⟩ := m_pt (kv := (tk.2.1, 0)) q6 (by omega) (by show tk.2.1 < 16; omega) (by show tk.2.1 ≠ 2; omega) (fun h => by have h' : tk.2.1 = 1 := h; omega)
          have p1' : gX12_puts S 306 2 (nI (cdM tk.2.1)) M4 = some M5 := by
            have e1 : (if (tk.2.1, (0 : Int32)).1 = 0 then (0 : Int32) else if (tk.2.1, (0 : Int32)).1 = 1 then 1 else 2) = 2 := by
              rw [if_neg (by show ¬ tk.2.1 = 0; omega), if_neg (by show ¬ tk.2.1 = 1; omega)]
            have e2 : (if (tk.2.1, (0 : Int32)).1 = 0 ∨ (tk.2.1, (0 : Int32)).1 = 1 then (tk.2.1, (0 : Int32)).2 else nI (cdM (tk.2.1, (0 : Int32)).1)) = nI (cdM tk.2.1) := if_neg (by show ¬ (tk.2.1 = 0 ∨ tk.2.1 = 1); omega)
            rw [e1, e2] at p1
            exact p1
          rw [bind_of p1']
          have asc : out ++ seg ++ seg2 ++ [(tk.2.1, 0)] = out ++ (seg ++ seg2 ++ [(tk.2.1, 0)]) := by simp only [List.append_assoc]
          rw [asc] at p4
          have ok2 : tkOk n tk0.2.2.2 tk2 := ⟨⟨q9.1.1, q9.1.2.1, by have := q9.1.2.2.1; have := nk.1.2.2.1; have := nk.1.2.2.2.1; have := g9.1.2.2.1; omega, q9.1.2.2.2⟩, q9.2⟩
          refine ih (fu + 1) M5 (k + 1 + k2) tk2 (pend2 ++ [tk.2.1]) c2 (seg ++ seg2 ++ [(tk.2.1, 0)]) Lp2 ?_ ?_ ?_ (fun d => dep_bin g4 q4 ⟨by omega, v5⟩ d) ?_ p4 ?_ q8 ok2 (p2.trans r4) (fun x y q => (p3 x y q).trans (f4 x y q)) ?_ (by omega)
          · rw [List.append_assoc]
            exact aIt_a it1 q1
          · intro x hx
            rcases List.mem_append.1 hx with h | h
            · exact Nat.le_trans hll (q2 x h)
            · rw [List.mem_singleton.1 h, rl]
              exact Nat.le_refl _
          · rw [List.map_append, ← List.append_assoc, q3, ← asc]
            rfl
          · rw [List.append_assoc]
            exact q5
          · rw [← asc, len_app]
            omega
          · have := q9.1.2.2.1
            have := nk.1.2.2.2.1
            have := nk.1.2.2.1
            omega
theorem lvl_of {S : List (Nat × Nat)} {T : Nat → Nat} {n b o m l l' prs : Nat} {nt nt' : Bool} {sub F : zM → Option zM} {G : Nat → zM → Option zM} (hn7 : n ≤ 700) (hl : l = 1 ∨ l = 2 ∨ l = 5 ∨ l = 6) (hll : l ≤ l') (hpr : l < prs) (hnt : nt = true → 3 < l) (hnt' : nt = true → nt' = true) (hsub : LvOK S T n b o m l' prs nt sub) (hsubd : ∀ M : zM, pMs S M.2.2 → ¬ M.1 306 24 = 0 → sub M = some M)
    (hin : ∀ (fu : Nat) (M : zM) (tk : zTk) (c : Nat) (out : List (Nat × Int32)), mFp S M T n b tk o c out → tkOk n 0 tk → tk.1 = 8 → rkN tk.2.1 = l → G (fu + 1) M = (gX12_knot S 306 M).bind (fun M2 => (gX12_goOn S 306 M2).bind (fun M3 => (sub M3).bind (fun M4 => (gX12_puts S 306 2 (nI (cdM tk.2.1)) M4).bind (fun M5 => G fu M5)))))
    (hout : ∀ (fu : Nat) (M : zM) (tk : zTk) (c : Nat) (out : List (Nat × Int32)), mFp S M T n b tk o c out → tkOk n 0 tk → ¬ (tk.1 = 8 ∧ rkN tk.2.1 = l) → G (fu + 1) M = some M) (hdead : ∀ (fu : Nat) (M : zM), pMs S M.2.2 → ¬ M.1 306 24 = 0 → G (fu + 1) M = some M)
    (hbk : ∀ (tk : zTk) (st : List Nat) (out : List (Nat × Int32)), tkOk n 0 tk → bkP l' tk st out → ¬ (tk.1 = 8 ∧ rkN tk.2.1 = l) → bkP l tk st out) (hF : ∀ M : zM, pMs S M.2.2 → F M = (sub M).bind (fun M1 => G zfu M1)) : LvOK S T n b o m l l nt' F := by
  intro M tk st c out hp hk hc h64 ht hn hm
  have hS := hp.1.1
  obtain ⟨z, hz⟩ : ∃ z, zfu = z + 1 := ⟨zfu - 1, by unfold zfu; omega⟩
  obtain ⟨M1, a1, a2, a3, a4⟩ := hsub M tk st c out hp hk hc h64 (by omega) (fun h => hn (hnt' h)) hm
  have hS1 : pMs S M1.2.2 := a2.symm ▸ hS
  rw [hF M hS, bind_of a1]
  rcases a4 with a4 | a4
  · refine ⟨M1, ?_, a2, a3, Or.inl a4⟩
    rw [hz]
    exact hdead z M1 hS1 (mFa_dead a4)
  · obtain ⟨k, tk', pend, c', seg, Lp, g1, g2, g3, g4, g5, g6, g7, g8, g9⟩ := a4
    exact loop_ok hn7 hl hll hpr hnt hsub hsubd hin hout hdead hbk ht hk hm n zfu M1 k tk' pend c' seg Lp g1 (fun x hx => Nat.le_trans hll (g2 x hx)) g3 g4 g5 g6 g7 g8 g9 a2 a3 (by omega) (by unfold zfu; omega)
section LEVELS
variable {S : List (Nat × Nat)} {T : Nat → Nat} {n b o m : Nat} {rk : Nat → zM → Option zM}
theorem prod_ok (hn7 : n ≤ 700) (hp : LvOK S T n b o m 7 7 true (gX12_primary S rk 306)) : LvOK S T n b o m 6 6 true (gX12_product S rk 306) := by
  refine lvl_of (l := 6) (l' := 7) (prs := 7) (G := fun fu M => gX12_product_4 S rk fu 306 M) hn7 (by omega) (by omega) (by omega) (fun _ => by omega) id hp (fun M hS hd => d_primary hS hd) ?_ ?_ (fun fu M hS hd => d_product4 hS hd) ?_ (fun M hS => by simp (disch := first | omega | simp only [qI2, qL2, qC2, qF2]) only [gX12_product, ↓mH hS])
  · intro fu M tk c out h hk c8 rl
    obtain ⟨hS, h24, h29, h21, tsv⟩ := mFp_t h
    have v8 := hk.2.2.1 c8
    have rv := (rk_v v8.1 v8.2).1.1 rl
    have sx := sg_x hk
    have e42 := m_isSgn (x := 42) hS h24 tsv hk (by decide) (by decide)
    have e47 := m_isSgn (x := 47) hS h24 tsv hk (by decide) (by decide)
    have vx := (m_sort tsv hk).1
    have g6 : sgN tk = cdM tk.2.1 := by unfold sgN; rw [if_neg (by omega), if_neg (by omega), if_neg (by omega), if_pos ⟨c8, by omega⟩]
    have v23 := (vx (by rw [g6]; have := cdM_f tk.2.1 (by omega) (by omega); omega)).2
    rw [g6] at v23
    have n10 : ¬ (1 : Int32) = 0 := by decide
    rcases (show tk.2.1 = 14 ∨ tk.2.1 = 15 by omega) with v | v
    · have e42' : gX12_isSign S 306 42 M = some 1 := by
        have : gX12_isSign S 306 42 M = _ := e42
        rw [this, decide_eq_true (sx.2.2.2.1.2 ⟨c8, v⟩)]; rfl
      simp (disch := first | omega | simp only [qI2, qL2, qC2, qF2]) only [gX12_product_4, ↓mH hS, ↓bind_of e42', if_neg n10, gX12_product_22, v23]
    · have e42' : gX12_isSign S 306 42 M = some 0 := by
        have : gX12_isSign S 306 42 M = _ := e42
        rw [this, decide_eq_false (fun h => by have := (sx.2.2.2.1.1 h).2; omega)]; rfl
      have e47' : gX12_isSign S 306 47 M = some 1 := by
        have : gX12_isSign S 306 47 M = _ := e47
        rw [this, decide_eq_true (sx.2.2.2.2.1.2 ⟨c8, v⟩)]; rfl
      simp (disch := first | omega | simp only [qI2, qL2, qC2, qF2]) only [gX12_product_4, ↓mH hS, ↓bind_of e42', ↓bind_of e47', if_true, if_neg n10, gX12_product_22, v23]
  · intro fu M tk c out h hk hno
    obtain ⟨hS, h24, h29, h21, tsv⟩ := mFp_t h
    have sx := sg_x hk
    have e42 := m_isSgn (x := 42) hS h24 tsv hk (by decide) (by decide)
    have e47 := m_isSgn (x := 47) hS h24 tsv hk (by decide) (by decide)
    have nv : ¬ (tk.1 = 8 ∧ 14 ≤ tk.2.1) := fun h => hno ⟨h.1, by have v8 := hk.2.2.1 h.1; exact (rk_v v8.1 v8.2).1.2 h.2⟩
    have e42' : gX12_isSign S 306 42 M = some 0 := by
      have : gX12_isSign S 306 42 M = _ := e42
      rw [this, decide_eq_false (fun h => by have := sx.2.2.2.1.1 h; omega)]; rfl
    have e47' : gX12_isSign S 306 47 M = some 0 := by
      have : gX12_isSign S 306 47 M = _ := e47
      rw [this, decide_eq_false (fun h => by have := sx.2.2.2.2.1.1 h; omega)]; rfl
    simp (disch := first | omega | simp only [qI2, qL2, qC2, qF2]) only [gX12_product_4, ↓mH hS, ↓bind_of e42', ↓bind_of e47', if_true]
  · intro tk st out hk hb hno
    refine ⟨fun _ h => hno ⟨h.1, ?_⟩, fun h => by omega, fun h => by omega, fun h => by omega, fun h => by omega⟩
    have v8 := hk.2.2.1 h.1
    exact (rk_v v8.1 v8.2).1.2 h.2
theorem sum_ok (hn7 : n ≤ 700) (hp : LvOK S T n b o m 6 6 true (gX12_product S rk 306)) : LvOK S T n b o m 5 5 true (gX12_sum S rk 306) := by
  refine lvl_of (l := 5) (l' := 6) (prs := 6) (G := fun fu M => gX12_sum_4 S rk fu 306 M) hn7 (by omega) (by omega) (by omega) (fun _ => by omega) id hp (fun M hS hd => d_product hS hd) ?_ ?_ (fun fu M hS hd => d_sum4 hS hd) ?_ (fun M hS => by simp (disch := first | omega | simp only [qI2, qL2, qC2, qF2]) only [gX12_sum, ↓mH hS])
  · intro fu M tk c out h hk c8 rl
    obtain ⟨hS, h24, h29, h21, tsv⟩ := mFp_t h
    have v8 := hk.2.2.1 c8
    have rv := (rk_v v8.1 v8.2).2.1.1 rl
    have sx := sg_x hk
    have e43 := m_isSgn (x := 43) hS h24 tsv hk (by decide) (by decide)
    have e45 := m_isSgn (x := 45) hS h24 tsv hk (by decide) (by decide)
    have vx := (m_sort tsv hk).1
    have g6 : sgN tk = cdM tk.2.1 := by unfold sgN; rw [if_neg (by omega), if_neg (by omega), if_neg (by omega), if_pos ⟨c8, by omega⟩]
    have v23 := (vx (by rw [g6]; have := cdM_f tk.2.1 (by omega) (by omega); omega)).2
    rw [g6] at v23
    have n10 : ¬ (1 : Int32) = 0 := by decide
    rcases (show tk.2.1 = 12 ∨ tk.2.1 = 13 by omega) with v | v
    · have e43' : gX12_isSign S 306 43 M = some 1 := by
        have : gX12_isSign S 306 43 M = _ := e43
        rw [this, decide_eq_true (sx.2.2.2.2.2.1.2 ⟨c8, v⟩)]; rfl
      simp (disch := first | omega | simp only [qI2, qL2, qC2, qF2]) only [gX12_sum_4, ↓mH hS, ↓bind_of e43', if_neg n10, gX12_sum_22, v23]
    · have e43' : gX12_isSign S 306 43 M = some 0 := by
        have : gX12_isSign S 306 43 M = _ := e43
        rw [this, decide_eq_false (fun h => by have := (sx.2.2.2.2.2.1.1 h).2; omega)]; rfl
      have e45' : gX12_isSign S 306 45 M = some 1 := by
        have : gX12_isSign S 306 45 M = _ := e45
        rw [this, decide_eq_true (sx.2.2.2.2.2.2.2 ⟨c8, v⟩)]; rfl
      simp (disch := first | omega | simp only [qI2, qL2, qC2, qF2]) only [gX12_sum_4, ↓mH hS, ↓bind_of e43', ↓bind_of e45', if_true, if_neg n10, gX12_sum_22, v23]
  · intro fu M tk c out h hk hno
    obtain ⟨hS, h24, h29, h21, tsv⟩ := mFp_t h
    have sx := sg_x hk
    have e43 := m_isSgn (x := 43) hS h24 tsv hk (by decide) (by decide)
    have e45 := m_isSgn (x := 45) hS h24 tsv hk (by decide) (by decide)
    have nv : ¬ (tk.1 = 8 ∧ 12 ≤ tk.2.1 ∧ tk.2.1 ≤ 13) := fun h => hno ⟨h.1, by have v8 := hk.2.2.1 h.1; exact (rk_v v8.1 v8.2).2.1.2 h.2⟩
    have e43' : gX12_isSign S 306 43 M = some 0 := by
      have : gX12_isSign S 306 43 M = _ := e43
      rw [this, decide_eq_false (fun h => by have := sx.2.2.2.2.2.1.1 h; omega)]; rfl
    have e45' : gX12_isSign S 306 45 M = some 0 := by
      have : gX12_isSign S 306 45 M = _ := e45
      rw [this, decide_eq_false (fun h => by have := sx.2.2.2.2.2.2.1 h; omega)]; rfl
    simp (disch := first | omega | simp only [qI2, qL2, qC2, qF2]) only [gX12_sum_4, ↓mH hS, ↓bind_of e43', ↓bind_of e45', if_true]
  · intro tk st out hk hb hno
    refine ⟨fun _ => hb.1 (by omega), fun _ h => ?_, fun h => by omega, fun h => by omega, fun h => by omega⟩
    have v8 := hk.2.2.1 h.1
    have h6 := hb.1 (by omega)
    exact hno ⟨h.1, (rk_v v8.1 v8.2).2.1.2 ⟨h.2, by omega⟩⟩
theorem neg_ok (hn7 : n ≤ 700) (hp : LvOK S T n b o m 5 5 true (gX12_sum S rk 306)) : ∀ (f : Nat) (M : zM) (tk : zTk) (st : List Nat) (c : Nat) (out : List (Nat × Int32)), mFp S M T n b tk o c out → tkOk n 0 tk → c = b + out.length + nOp st → c ≤ 64 → topR st < 4 → n ≤ tk.2.2.1 + m → 65 < c + f → ∃ M', gX12_negation S rk f 306 M = some M' ∧ mO S T n b 3 M tk st o c out M' := by
  intro f
  induction f with
  | zero => intro M tk st c out _ _ _ _ _ _ h; omega
  | succ f ih =>
    intro M tk st c out h hk hc h64 ht hm hf
    obtain ⟨hS, h24, h29, h21, tsv⟩ := mFp_t h
    have hrc : ∀ (ρ : Type) (o : Option ρ), zrc S 306 12 66 o = o := fun ρ o => zrc_ok hS.1
    have nk := tokS_ok (T := T) (n := n) (a := tk.2.2.2) hk.1.2.2.2.2 hn7
    have e12 := m_isWrd (x := 12) hS h24 tsv hk (by omega) (by omega)
    have n10 : ¬ (1 : Int32) = 0 := by decide
    show ∃ M', gX12_negationB S rk (gX12_negation S rk f) 306 M = some M' ∧ _
    by_cases c5 : tk.1 = 8 ∧ tk.2.1 = 5
    · have e12' : gX12_isWord S 306 12 M = some 1 := by
        have : gX12_isWord S 306 12 M = _ := e12
        rw [this, decide_eq_true ⟨c5.1, by omega⟩]; rfl
      have ss : stepA tk (true, st, o, c, out) = if 64 ≤ c then .inl 2 else .inr (true, 5 :: st, o, c + 1, out) := by
        show beA tk st o c out = _
        unfold beA
        rw [if_neg (by omega), if_neg (by omega), if_neg (by omega), if_pos ⟨c5, by omega⟩]
      by_cases h6 : 64 ≤ c
      · have c64 : c = 64 := by omega
        rw [if_pos h6] at ss
        have dk := m_knotF (tk := tk) hS h24 h21 (by rw [h29, c64])
        have hS1 : pMs S (zsI (zsI M 306 24 2) 306 25 (nI tk.2.2.1)).2.2 := hS
        have dd : ¬ (zsI (zsI M 306 24 2) 306 25 (nI tk.2.2.1)).1 306 24 = 0 := by rw [zsI_ne (by omega), zsI_at]; decide
        obtain ⟨f', hf'⟩ : ∃ f', f = f' + 1 := ⟨f - 1, by omega⟩
        refine ⟨zsI (zsI M 306 24 2) 306 25 (nI tk.2.2.1), ?_, rfl, fun x y q => mFq_w x y q, Or.inl ⟨0, tk, _, 2, rfl, ss, Or.inr rfl, by rw [zsI_ne (by omega), zsI_at]; rfl, zsI_at _ _ _ _⟩⟩
        have dg := d_goOn hS1 dd
        have dn := d_negation hS1 dd (rk := rk) (fu := f')
        have dp := d_puts hS1 dd 2 260
        rw [hf']
        simp (disch := first | omega | simp only [qI2, qL2, qC2, qF2]) only [gX12_negationB, ↓mH hS, ↓bind_of e12', if_neg n10, ↓bind_of dk, ↓bind_of dg, ↓bind_of dn, ↓bind_of dp]
      · rw [if_neg h6] at ss
        have dk := m_knotO hS h24 h29 (by omega)
        obtain ⟨M3, a1, -, a2, a3, a4⟩ := mF_goOn (mFp_kn h) hk
        have nop : nOp (5 :: st) = 1 + nOp st := by
          show (if 5 = 2 then 0 else 1) + nOp st = 1 + nOp st
          rw [if_neg (by omega)]
        obtain ⟨M4, b1, b2, b3, b4⟩ := ih M3 (tokS T n tk.2.2.2) (5 :: st) (c + 1) out a4 (tkOk_0 nk) (by rw [nop]; omega) (by omega) (by show rkN 5 < 4; decide) (by have := nk.1.2.2.1; have := hk.1.2.2.2.1; omega) (by omega)
        have r4 : M4.2.2 = M.2.2 := b2.trans a2
        have f4 : ∀ x y, ¬ mFq b x y → M4.1 x y = M.1 x y := fun x y q => by rw [b3 x y q, a3 x y q, zsI_ne (by unfold mFq at q; omega)]
        have hS4 : pMs S M4.2.2 := by rw [r4]; exact hS
        rcases b4 with b4 | b4
        · have dd := mFa_dead b4
          have dp := d_puts hS4 dd 2 260
          refine ⟨M4, ?_, r4, f4, Or.inl (mFa_pre (aIt_1 ss) b4)⟩
          simp (disch := first | omega | simp only [qI2, qL2, qC2, qF2]) only [gX12_negationB, ↓mH hS, ↓bind_of e12', if_neg n10, ↓bind_of dk, ↓bind_of a1, ↓bind_of b1, ↓bind_of dp]
        · obtain ⟨k2, tk2, pend2, c2, seg2, Lp2, q1, q2, q3, q4, q5, q6, q7, q8, q9⟩ := b4
          rw [nop] at q7
          obtain ⟨M5, p1, p2, p3, p4⟩ := m_pt (kv := (5, 0)) q6 (by omega) (by decide) (by decide) (fun h => by cases h)
          have p1' : gX12_puts S 306 2 260 M4 = some M5 := p1
          rw [List.append_assoc] at p4
          refine ⟨M5, ?_, p2.trans r4, fun x y q => (p3 x y q).trans (f4 x y q), Or.inr ⟨1 + k2, tk2, pend2 ++ [5], c2, seg2 ++ [(5, 0)], Lp2, ?_, ?_, ?_, fun d => dep_not q4 d, ?_, p4, ?_, q8, ⟨⟨q9.1.1, q9.1.2.1, by have := q9.1.2.2.1; have := nk.1.2.2.1; have := nk.1.2.2.2.1; omega, q9.1.2.2.2⟩, q9.2⟩⟩⟩
          · simp (disch := first | omega | simp only [qI2, qL2, qC2, qF2]) only [gX12_negationB, ↓mH hS, ↓bind_of e12', if_neg n10, ↓bind_of dk, ↓bind_of a1, ↓bind_of b1, ↓bind_of p1']
          · rw [List.append_assoc]
            exact aIt_a (aIt_1 ss) q1
          · intro x hx
            rcases List.mem_append.1 hx with h | h
            · exact q2 x h
            · rw [List.mem_singleton.1 h]
              decide
          · rw [List.map_append, ← List.append_assoc, q3, List.append_assoc]
            rfl
          · rw [List.append_assoc]
            exact q5
          · rw [← List.append_assoc, len_app]
            omega
    · have e12' : gX12_isWord S 306 12 M = some 0 := by
        have : gX12_isWord S 306 12 M = _ := e12
        rw [this, decide_eq_false (fun h => c5 ⟨h.1, by omega⟩)]; rfl
      obtain ⟨M2, a1, a2, a3, a4⟩ := hp M tk st c out h hk hc h64 (by omega) (fun _ h1 h2 => absurd ⟨h1, h2⟩ c5) hm
      have hS2 : pMs S M2.2.2 := a2.symm ▸ hS
      rcases a4 with a4 | a4
      · have dd := mFa_dead a4
        refine ⟨M2, ?_, a2, a3, Or.inl a4⟩
        simp (disch := first | omega | simp only [qI2, qL2, qC2, qF2]) only [gX12_negationB, ↓mH hS, ↓bind_of e12', if_true, ↓bind_of a1, ↓mH hS2, if_neg dd]
      · obtain ⟨k, tk', pend, c', seg, Lp, g1, g2, g3, g4, g5, g6, g7, g8, g9⟩ := a4
        obtain ⟨-, u24, u29, u21, usv⟩ := mFp_t g6
        obtain ⟨x1, x2, x3, x4⟩ := m_sort usv g9
        by_cases cm : tk'.1 = 8 ∧ 6 ≤ tk'.2.1 ∧ tk'.2.1 ≤ 11
        · obtain ⟨c8, v6, v11⟩ := cm
          have v8 := g9.2.2.1 c8
          have cf := cdM_f tk'.2.1 (by omega) v6
          have sgv : sgN tk' = cdM tk'.2.1 := by unfold sgN; rw [if_neg (by omega), if_neg (by omega), if_neg (by omega), if_pos ⟨c8, v6⟩]
          obtain ⟨s3, v23⟩ := x1 (by omega)
          rw [sgv] at v23
          have r4 : rkN tk'.2.1 = 4 := (rk_v v8.1 v8.2).2.2.1.2 ⟨v6, v11⟩
          have un : unw 5 (pend ++ st) Lp = (st, out ++ seg) := by
            rw [unw_app g2, g3]
            exact unw_stop (by omega)
          have ss : stepA tk' (false, pend ++ st, o, c', Lp) = if 64 ≤ c' then .inl 2 else .inr (true, tk'.2.1 :: st, o, c' + 1, out ++ seg) := by
            show (if false = true then _ else if o = 0 ∧ tk'.1 = 5 then _ else enA tk' (pend ++ st) o c' Lp) = _
            rw [if_neg Bool.false_ne_true, if_neg (by omega)]
            unfold enA
            rw [if_neg (by omega), if_pos ⟨c8, by omega⟩, if_pos r4, un]
            unfold enB
            rw [if_neg (fun h => by have h2 : topR st = 4 := h.2; omega)]
          have road : ∀ R : Option zM, (gX12_knot S 306 M2).bind (fun M7 => (gX12_goOn S 306 M7).bind (fun M8 => (gX12_sum S rk 306 M8).bind (fun M9 => (gX12_puts S 306 2 (nI (cdM tk'.2.1)) M9).bind (fun M10 => some M10)))) = R → gX12_negationB S rk (gX12_negation S rk f) 306 M = R := by
            intro R hR
            rw [← hR]
            have li60' : (60 : Int32) = nI 60 := rfl
            have li61' : (61 : Int32) = nI 61 := rfl
            have li62' : (62 : Int32) = nI 62 := rfl
            have li256' : (256 : Int32) = nI 256 := rfl
            have c11 := cf.2.2.2.2.2.2.2.2.2.2 v11
            by_cases e60 : cdM tk'.2.1 = 60
            · simp (disch := first | omega | simp only [qI2, qL2, qC2, qF2]) only [gX12_negationB, ↓mH hS, ↓bind_of e12', if_true, ↓bind_of a1, ↓mH hS2, u24, s3, v23, li60', nI_eq, if_pos e60, hrc]
            · by_cases e62 : cdM tk'.2.1 = 62
              · simp (disch := first | omega | simp only [qI2, qL2, qC2, qF2]) only [gX12_negationB, ↓mH hS, ↓bind_of e12', if_true, ↓bind_of a1, ↓mH hS2, u24, s3, v23, li60', li62', nI_eq, if_neg e60, if_pos e62, hrc]
              · by_cases e61 : cdM tk'.2.1 = 61
                · simp (disch := first | omega | simp only [qI2, qL2, qC2, qF2]) only [gX12_negationB, ↓mH hS, ↓bind_of e12', if_true, ↓bind_of a1, ↓mH hS2, u24, s3, v23, li60', li62', li61', nI_eq, if_neg e60, if_neg e62, if_pos e61, hrc]
                · have e256 : 256 ≤ cdM tk'.2.1 := by omega
                  simp (disch := first | omega | simp only [qI2, qL2, qC2, qF2]) only [gX12_negationB, ↓mH hS, ↓bind_of e12', if_true, ↓bind_of a1, ↓mH hS2, u24, s3, v23, li60', li62', li61', li256', nI_eq, nI_leI, if_neg e60, if_neg e62, if_neg e61, if_pos e256, hrc]
          by_cases h6 : 64 ≤ c'
          · have c64 : c' = 64 := by omega
            rw [if_pos h6] at ss
            have dk := m_knotF (tk := tk') hS2 u24 u21 (by rw [u29, c64])
            have hS1 : pMs S (zsI (zsI M2 306 24 2) 306 25 (nI tk'.2.2.1)).2.2 := hS2
            have dd : ¬ (zsI (zsI M2 306 24 2) 306 25 (nI tk'.2.2.1)).1 306 24 = 0 := by rw [zsI_ne (by omega), zsI_at]; decide
            refine ⟨zsI (zsI M2 306 24 2) 306 25 (nI tk'.2.2.1), road _ ?_, a2, fun x y q => (mFq_w x y q).trans (a3 x y q), Or.inl ⟨k, tk', _, 2, g1, ss, Or.inr rfl, by rw [zsI_ne (by omega), zsI_at]; rfl, zsI_at _ _ _ _⟩⟩
            rw [bind_of dk, bind_of (d_goOn hS1 dd), bind_of (d_sum hS1 dd), bind_of (d_puts hS1 dd _ _)]
          · rw [if_neg h6] at ss
            have dk := m_knotO hS2 u24 u29 (by omega)
            obtain ⟨M3, b0, -, b2, b3, b4⟩ := mF_goOn (mFp_kn g6) (tkOk_0 g9)
            have nk2 := tokS_ok (T := T) (n := n) (a := tk'.2.2.2) g9.1.2.2.2.2 hn7
            have nop : nOp (tk'.2.1 :: st) = 1 + nOp st := by
              show (if tk'.2.1 = 2 then 0 else 1) + nOp st = 1 + nOp st
              rw [if_neg (by omega)]
            obtain ⟨M4, d1, d2, d3, d4⟩ := hp M3 (tokS T n tk'.2.2.2) (tk'.2.1 :: st) (c' + 1) (out ++ seg) b4 (tkOk_0 nk2) (by rw [nop]; omega) (by omega) (by show rkN tk'.2.1 < 5; omega) (fun _ _ _ => by show 3 < rkN tk'.2.1; omega) (by have := nk2.1.2.2.1; have := g9.1.2.2.1; have := g9.1.2.2.2.1; have := hk.1.2.2.2.1; omega)
            have r4' : M4.2.2 = M.2.2 := d2.trans (b2.trans a2)
            have f4 : ∀ x y, ¬ mFq b x y → M4.1 x y = M.1 x y := fun x y q => by rw [d3 x y q, b3 x y q, zsI_ne (by unfold mFq at q; omega)]; exact a3 x y q
            have hS4 : pMs S M4.2.2 := by rw [r4']; exact hS
            have it1 := aIt_a g1 (aIt_1 ss)
            rcases d4 with d4 | d4
            · have dd := mFa_dead d4
              refine ⟨M4, road _ ?_, r4', f4, Or.inl (mFa_pre it1 d4)⟩
              rw [bind_of dk, bind_of b0, bind_of d1, bind_of (d_puts hS4 dd _ _)]
            · obtain ⟨k2, tk2, pend2, c2, seg2, Lp2, q1, q2, q3, q4, q5, q6, q7, q8, q9⟩ := d4
              rw [nop] at q7
              obtain ⟨M5, p1, p2, p3, p4⟩ := m_pt (kv := (tk'.2.1, 0)) q6 (by omega) (by show tk'.2.1 < 16; omega) (by show tk'.2.1 ≠ 2; omega) (fun h => by have h' : tk'.2.1 = 1 := h; omega)
              have p1' : gX12_puts S 306 2 (nI (cdM tk'.2.1)) M4 = some M5 := by
                have e1 : (if (tk'.2.1, (0 : Int32)).1 = 0 then (0 : Int32) else if (tk'.2.1, (0 : Int32)).1 = 1 then 1 else 2) = 2 := by
                  rw [if_neg (by show ¬ tk'.2.1 = 0; omega), if_neg (by show ¬ tk'.2.1 = 1; omega)]
                have e2 : (if (tk'.2.1, (0 : Int32)).1 = 0 ∨ (tk'.2.1, (0 : Int32)).1 = 1 then (tk'.2.1, (0 : Int32)).2 else nI (cdM (tk'.2.1, (0 : Int32)).1)) = nI (cdM tk'.2.1) := if_neg (by show ¬ (tk'.2.1 = 0 ∨ tk'.2.1 = 1); omega)
                rw [e1, e2] at p1
                exact p1
              have asc : out ++ seg ++ seg2 ++ [(tk'.2.1, 0)] = out ++ (seg ++ seg2 ++ [(tk'.2.1, 0)]) := by simp only [List.append_assoc]
              rw [asc] at p4
              refine ⟨M5, road _ ?_, p2.trans r4', fun x y q => (p3 x y q).trans (f4 x y q), Or.inr ⟨k + 1 + k2, tk2, pend2 ++ [tk'.2.1], c2, seg ++ seg2 ++ [(tk'.2.1, 0)], Lp2, ?_, ?_, ?_, fun d => dep_bin g4 q4 ⟨by omega, by omega⟩ d, ?_, p4, ?_, q8, ⟨⟨q9.1.1, q9.1.2.1, by have := q9.1.2.2.1; have := nk2.1.2.2.1; have := nk2.1.2.2.2.1; have := g9.1.2.2.1; have := g9.1.2.2.2.1; omega, q9.1.2.2.2⟩, q9.2⟩⟩⟩
              · rw [bind_of dk, bind_of b0, bind_of d1, bind_of p1']
              · rw [List.append_assoc]
                exact aIt_a it1 q1
              · intro x hx
                rcases List.mem_append.1 hx with h | h
                · have := q2 x h
                  omega
                · rw [List.mem_singleton.1 h, r4]
                  decide
              · rw [List.map_append, ← List.append_assoc, q3, ← asc]
                rfl
              · rw [List.append_assoc]
                refine ⟨fun _ => q5.1 (by omega), fun _ => q5.2.1 (by omega), fun _ h8 h6 => ?_, fun h => by omega, fun h => by omega⟩
                show topR (unw 5 (pend2 ++ (tk'.2.1 :: st)) Lp2).1 = 4
                rw [unw_app q2, unw_stop (show topR (tk'.2.1 :: st) < 5 by show rkN tk'.2.1 < 5; omega)]
                exact r4
              · rw [← asc, len_app]
                omega
        · refine ⟨M2, ?_, a2, a3, Or.inr ⟨k, tk', pend, c', seg, Lp, g1, fun x hx => Nat.le_trans (by omega) (g2 x hx), g3, g4, ⟨fun _ => g5.1 (by omega), fun _ => g5.2.1 (by omega), fun _ h8 h6 => by have := g5.2.1 (by omega); omega, fun h => by omega, fun h => by omega⟩, g6, g7, g8, g9⟩⟩
          by_cases s3 : M2.1 306 22 = 3
          · have sn : sgN tk' ≠ 0 := fun e => x2 e s3
            obtain ⟨-, v23⟩ := x1 sn
            have ncm : ¬ (sgN tk' = 60 ∨ sgN tk' = 62 ∨ sgN tk' = 61 ∨ 256 ≤ sgN tk') := by
              intro hh
              unfold sgN at hh
              by_cases e5 : tk'.1 = 5
              · rw [if_pos e5] at hh; omega
              rw [if_neg e5] at hh
              by_cases e6 : tk'.1 = 6
              · rw [if_pos e6] at hh; omega
              rw [if_neg e6] at hh
              by_cases e7 : tk'.1 = 7
              · rw [if_pos e7] at hh; omega
              rw [if_neg e7] at hh
              by_cases e8 : tk'.1 = 8 ∧ 6 ≤ tk'.2.1
              · rw [if_pos e8] at hh
                have cf := cdM_f tk'.2.1 (by have := g9.2.2.1 e8.1; omega) e8.2
                exact cm ⟨e8.1, e8.2, cf.2.2.2.2.2.2.2.2.2.1 hh⟩
              · rw [if_neg e8] at hh; omega
            have e60 : ¬ sgN tk' = 60 := by omega
            have e62 : ¬ sgN tk' = 62 := by omega
            have e61 : ¬ sgN tk' = 61 := by omega
            have e256 : ¬ 256 ≤ sgN tk' := by omega
            have li60' : (60 : Int32) = nI 60 := rfl
            have li61' : (61 : Int32) = nI 61 := rfl
            have li62' : (62 : Int32) = nI 62 := rfl
            have li256' : (256 : Int32) = nI 256 := rfl
            simp (disch := first | omega | simp only [qI2, qL2, qC2, qF2]) only [gX12_negationB, ↓mH hS, ↓bind_of e12', if_true, ↓bind_of a1, ↓mH hS2, u24, s3, v23, li60', li62', li61', li256', nI_eq, nI_leI, if_neg e60, if_neg e62, if_neg e61, if_neg e256]
          · simp (disch := first | omega | simp only [qI2, qL2, qC2, qF2]) only [gX12_negationB, ↓mH hS, ↓bind_of e12', if_true, ↓bind_of a1, ↓mH hS2, u24, if_neg s3]
theorem conj_ok (hn7 : n ≤ 700) (hp : LvOK S T n b o m 5 5 true (gX12_sum S rk 306)) : LvOK S T n b o m 2 2 false (gX12_conjunction S rk 306) := by
  have hng : LvOK S T n b o m 3 4 false (gX12_negation S rk 70 306) := fun M tk st c out h1 h2 h3 h4 h5 _ h7 => neg_ok hn7 hp 70 M tk st c out h1 h2 h3 h4 h5 h7 (by omega)
  refine lvl_of (l := 2) (l' := 3) (prs := 4) (nt := false) (G := fun fu M => gX12_conjunction_4 S rk fu 306 M) hn7 (by omega) (by omega) (by omega) (fun h => by cases h) (fun h => by cases h) hng (fun M hS hd => d_negation hS hd) ?_ ?_ (fun fu M hS hd => d_conj4 hS hd) ?_ (fun M hS => by simp (disch := first | omega | simp only [qI2, qL2, qC2, qF2]) only [gX12_conjunction, ↓mH hS])
  · intro fu M tk c out h hk c8 rl
    obtain ⟨hS, h24, h29, h21, tsv⟩ := mFp_t h
    have v8 := hk.2.2.1 c8
    have rv := (rk_v v8.1 v8.2).2.2.2.2.1.1 rl
    have e11 := m_isWrd (x := 11) hS h24 tsv hk (by omega) (by omega)
    have n10 : ¬ (1 : Int32) = 0 := by decide
    have e11' : gX12_isWord S 306 11 M = some 1 := by
      have : gX12_isWord S 306 11 M = _ := e11
      rw [this, decide_eq_true ⟨c8, by omega⟩]; rfl
    have cd : nI (cdM tk.2.1) = 261 := by rw [rv]; rfl
    have hrc : ∀ (ρ : Type) (o : Option ρ), zrc S 306 12 66 o = o := fun ρ o => zrc_ok hS.1
    simp (disch := first | omega | simp only [qI2, qL2, qC2, qF2]) only [gX12_conjunction_4, ↓mH hS, ↓bind_of e11', if_neg n10, hrc, cd]
  · intro fu M tk c out h hk hno
    obtain ⟨hS, h24, h29, h21, tsv⟩ := mFp_t h
    have e11 := m_isWrd (x := 11) hS h24 tsv hk (by omega) (by omega)
    have e11' : gX12_isWord S 306 11 M = some 0 := by
      have : gX12_isWord S 306 11 M = _ := e11
      rw [this, decide_eq_false (fun h => hno ⟨h.1, by have v8 := hk.2.2.1 h.1; exact (rk_v v8.1 v8.2).2.2.2.2.1.2 (by omega)⟩)]; rfl
    simp (disch := first | omega | simp only [qI2, qL2, qC2, qF2]) only [gX12_conjunction_4, ↓mH hS, ↓bind_of e11', if_true]
  · intro tk st out hk hb hno
    refine ⟨fun _ => hb.1 (by omega), fun _ => hb.2.1 (by omega), fun _ => hb.2.2.1 (by omega), fun _ h => hno ⟨h.1, ?_⟩, fun h => by omega⟩
    have v8 := hk.2.2.1 h.1
    exact (rk_v v8.1 v8.2).2.2.2.2.1.2 h.2
theorem exprB_ok (hn7 : n ≤ 700) (hp : LvOK S T n b o m 2 2 false (gX12_conjunction S rk 306)) : LvOK S T n b o m 1 1 false (gX12_expressionB S rk 306) := by
  refine lvl_of (l := 1) (l' := 2) (prs := 2) (nt := false) (G := fun fu M => gX12_expression_4 S rk fu 306 M) hn7 (by omega) (by omega) (by omega) (fun h => by cases h) (fun h => by cases h) hp (fun M hS hd => d_conj hS hd) ?_ ?_ (fun fu M hS hd => d_expr4 hS hd) ?_ (fun M hS => by simp (disch := first | omega | simp only [qI2, qL2, qC2, qF2]) only [gX12_expressionB, ↓mH hS])
  · intro fu M tk c out h hk c8 rl
    obtain ⟨hS, h24, h29, h21, tsv⟩ := mFp_t h
    have v8 := hk.2.2.1 c8
    have rv := (rk_v v8.1 v8.2).2.2.2.2.2.1 rl
    have e10 := m_isWrd (x := 10) hS h24 tsv hk (by omega) (by omega)
    have n10 : ¬ (1 : Int32) = 0 := by decide
    have e10' : gX12_isWord S 306 10 M = some 1 := by
      have : gX12_isWord S 306 10 M = _ := e10
      rw [this, decide_eq_true ⟨c8, by omega⟩]; rfl
    have cd : nI (cdM tk.2.1) = 262 := by rw [rv]; rfl
    have hrc : ∀ (ρ : Type) (o : Option ρ), zrc S 306 12 66 o = o := fun ρ o => zrc_ok hS.1
    simp (disch := first | omega | simp only [qI2, qL2, qC2, qF2]) only [gX12_expression_4, ↓mH hS, ↓bind_of e10', if_neg n10, hrc, cd]
  · intro fu M tk c out h hk hno
    obtain ⟨hS, h24, h29, h21, tsv⟩ := mFp_t h
    have e10 := m_isWrd (x := 10) hS h24 tsv hk (by omega) (by omega)
    have e10' : gX12_isWord S 306 10 M = some 0 := by
      have : gX12_isWord S 306 10 M = _ := e10
      rw [this, decide_eq_false (fun h => hno ⟨h.1, by have v8 := hk.2.2.1 h.1; exact (rk_v v8.1 v8.2).2.2.2.2.2.2 (by omega)⟩)]; rfl
    simp (disch := first | omega | simp only [qI2, qL2, qC2, qF2]) only [gX12_expression_4, ↓mH hS, ↓bind_of e10', if_true]
  · intro tk st out hk hb hno
    refine ⟨fun _ => hb.1 (by omega), fun _ => hb.2.1 (by omega), fun _ => hb.2.2.1 (by omega), fun _ => hb.2.2.2.1 (by omega), fun _ h => hno ⟨h.1, ?_⟩⟩
    have v8 := hk.2.2.1 h.1
    exact (rk_v v8.1 v8.2).2.2.2.2.2.2 h.2
end LEVELS
theorem expr_ok {S : List (Nat × Nat)} {T : Nat → Nat} {n b : Nat} (hn7 : n ≤ 700) : ∀ (m o fe : Nat), o ≤ 8 → 8 < o + fe → LvOK S T n b o m 1 1 false (gX12_expression S fe 306) := by
  intro m
  induction m with
  | zero =>
    intro o fe ho hf
    obtain ⟨fe, rfl⟩ : ∃ f, fe = f + 1 := ⟨fe - 1, by omega⟩
    have pr : LvOK S T n b o 0 7 7 true (gX12_primary S (gX12_expression S fe) 306) := prim_ok hn7 ho (fun _ M tk st c out _ hk _ _ _ h => by have := hk.1.2.2.2.1; have := hk.1.2.2.2.2; omega)
    exact exprB_ok hn7 (conj_ok hn7 (sum_ok hn7 (prod_ok hn7 pr)))
  | succ m ih =>
    intro o fe ho hf
    obtain ⟨fe, rfl⟩ : ∃ f, fe = f + 1 := ⟨fe - 1, by omega⟩
    have pr : LvOK S T n b o (m + 1) 7 7 true (gX12_primary S (gX12_expression S fe) 306) := prim_ok hn7 ho (fun h8 M tk st c out h1 h2 h3 h4 h5 h6 => ih (o + 1) fe (by omega) (by omega) M tk st c out h1 h2 h3 h4 h5 (fun h => by cases h) (by omega))
    exact exprB_ok hn7 (conj_ok hn7 (sum_ok hn7 (prod_ok hn7 pr)))
