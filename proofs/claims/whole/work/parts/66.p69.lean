/-! pure part 69: formulas: the model's levels -/
def sgK (k : Nat) : Nat × Int32 := (k, 0)
theorem unw_app {r : Nat} {st : List Nat} : ∀ {pend : List Nat} {out : List (Nat × Int32)}, (∀ x, x ∈ pend → r ≤ rkN x) → unw r (pend ++ st) out = unw r st (out ++ pend.map sgK)
  | [], out, _ => by
    show unw r st out = unw r st (out ++ [])
    rw [List.append_nil]
  | k :: pend, out, h => by
    show (if r ≤ rkN k then unw r (pend ++ st) (out ++ [(k, 0)]) else (k :: (pend ++ st), out)) = unw r st (out ++ (sgK k :: pend.map sgK))
    rw [if_pos (h k (List.mem_cons_self ..)), unw_app (fun x hx => h x (List.mem_cons_of_mem _ hx)), List.append_assoc]
    rfl
theorem unw_stop {r : Nat} {st : List Nat} {out : List (Nat × Int32)} (h : topR st < r) : unw r st out = (st, out) := by
  cases st with
  | nil => rfl
  | cons k st =>
    show (if r ≤ rkN k then unw r st (out ++ [(k, 0)]) else (k :: st, out)) = _
    have h' : rkN k < r := h
    rw [if_neg (by omega)]
theorem dep_app : ∀ {L1 L2 : List (Nat × Int32)} {d e : Nat}, dep L1 d = some e → dep (L1 ++ L2) d = dep L2 e
  | [], L2, d, e, h => by
    cases h
    rfl
  | kv :: L1, L2, d, e, h => by
    have h' : (if kv.1 = 0 ∨ kv.1 = 1 then dep L1 (d + 1) else if kv.1 = 5 then (if 1 ≤ d then dep L1 d else none) else if 2 ≤ d then dep L1 (d - 1) else none) = some e := h
    show (if kv.1 = 0 ∨ kv.1 = 1 then dep (L1 ++ L2) (d + 1) else if kv.1 = 5 then (if 1 ≤ d then dep (L1 ++ L2) d else none) else if 2 ≤ d then dep (L1 ++ L2) (d - 1) else none) = dep L2 e
    by_cases a : kv.1 = 0 ∨ kv.1 = 1
    · rw [if_pos a] at h' ⊢
      exact dep_app h'
    · rw [if_neg a] at h' ⊢
      by_cases b : kv.1 = 5
      · rw [if_pos b] at h' ⊢
        by_cases c : 1 ≤ d
        · rw [if_pos c] at h' ⊢
          exact dep_app h'
        · rw [if_neg c] at h'
          cases h'
      · rw [if_neg b] at h' ⊢
        by_cases c : 2 ≤ d
        · rw [if_pos c] at h' ⊢
          exact dep_app h'
        · rw [if_neg c] at h'
          cases h'
theorem dep_bin {s1 s2 : List (Nat × Int32)} {v : Nat} (h1 : ∀ d, dep s1 d = some (d + 1)) (h2 : ∀ d, dep s2 d = some (d + 1)) (hv : ¬ (v = 0 ∨ v = 1) ∧ v ≠ 5) (d : Nat) : dep (s1 ++ s2 ++ [(v, 0)]) d = some (d + 1) := by
  rw [List.append_assoc, dep_app (h1 d), dep_app (h2 (d + 1))]
  show (if v = 0 ∨ v = 1 then dep [] (d + 1 + 1 + 1) else if v = 5 then (if 1 ≤ d + 1 + 1 then dep [] (d + 1 + 1) else none) else if 2 ≤ d + 1 + 1 then dep [] (d + 1 + 1 - 1) else none) = some (d + 1)
  rw [if_neg hv.1, if_neg hv.2, if_pos (by omega)]
  rfl
theorem dep_not {s1 : List (Nat × Int32)} (h1 : ∀ d, dep s1 d = some (d + 1)) (d : Nat) : dep (s1 ++ [(5, 0)]) d = some (d + 1) := by
  rw [dep_app (h1 d)]
  show (if (5 : Nat) = 0 ∨ (5 : Nat) = 1 then dep [] (d + 1 + 1) else if (5 : Nat) = 5 then (if 1 ≤ d + 1 then dep [] (d + 1) else none) else if 2 ≤ d + 1 then dep [] (d + 1 - 1) else none) = some (d + 1)
  rw [if_neg (by omega), if_pos rfl, if_pos (by omega)]
  rfl
def mFa (T : Nat → Nat) (n : Nat) (tk : zTk) (s : zAu) (M' : zM) : Prop := ∃ (k : Nat) (tk' : zTk) (s' : zAu) (f : Nat), aIt T n k tk s = some (tk', s') ∧ stepA tk' s' = .inl f ∧ (f = 1 ∨ f = 2) ∧ M'.1 306 24 = nI f ∧ M'.1 306 25 = nI tk'.2.2.1
theorem mFa_dead {T : Nat → Nat} {n : Nat} {tk : zTk} {s : zAu} {M' : zM} (h : mFa T n tk s M') : ¬ M'.1 306 24 = 0 := by
  obtain ⟨k, tk', s', f, h1, h2, h3, h4, h5⟩ := h
  rw [h4]
  rcases h3 with rfl | rfl <;> decide
theorem mFa_pre {T : Nat → Nat} {n k : Nat} {tk tk1 : zTk} {s s1 : zAu} {M' : zM} (h0 : aIt T n k tk s = some (tk1, s1)) (h : mFa T n tk1 s1 M') : mFa T n tk s M' := by
  obtain ⟨k2, tk', s', f, h1, h2⟩ := h
  exact ⟨k + k2, tk', s', f, aIt_a h0 h1, h2⟩
def bkP (l : Nat) (tk : zTk) (st : List Nat) (out : List (Nat × Int32)) : Prop := (l ≤ 6 → ¬ (tk.1 = 8 ∧ 14 ≤ tk.2.1)) ∧ (l ≤ 5 → ¬ (tk.1 = 8 ∧ 12 ≤ tk.2.1)) ∧ (l ≤ 3 → tk.1 = 8 → 6 ≤ tk.2.1 → topR (unw 5 st out).1 = 4) ∧ (l ≤ 2 → ¬ (tk.1 = 8 ∧ tk.2.1 = 4)) ∧ (l ≤ 1 → ¬ (tk.1 = 8 ∧ tk.2.1 = 3))
def mSu (S : List (Nat × Nat)) (T : Nat → Nat) (n b l : Nat) (tk : zTk) (st : List Nat) (o c : Nat) (out : List (Nat × Int32)) (M' : zM) : Prop := ∃ (k : Nat) (tk' : zTk) (pend : List Nat) (c' : Nat) (seg Lp : List (Nat × Int32)), aIt T n k tk (true, st, o, c, out) = some (tk', (false, pend ++ st, o, c', Lp)) ∧ (∀ x, x ∈ pend → l ≤ rkN x) ∧ Lp ++ pend.map sgK = out ++ seg ∧ (∀ d, dep seg d = some (d + 1)) ∧ bkP l tk' (pend ++ st) Lp ∧ mFp S M' T n b tk' o c' (out ++ seg) ∧ c' = b + (out ++ seg).length + nOp st ∧ c' ≤ 64 ∧ tkOk n tk.2.2.2 tk'
def mO (S : List (Nat × Nat)) (T : Nat → Nat) (n b l : Nat) (M0 : zM) (tk : zTk) (st : List Nat) (o c : Nat) (out : List (Nat × Int32)) (M' : zM) : Prop := M'.2.2 = M0.2.2 ∧ (∀ x y, ¬ mFq b x y → M'.1 x y = M0.1 x y) ∧ (mFa T n tk (true, st, o, c, out) M' ∨ mSu S T n b l tk st o c out M')
def LvOK (S : List (Nat × Nat)) (T : Nat → Nat) (n b o m l pr : Nat) (nt : Bool) (F : zM → Option zM) : Prop := ∀ (M : zM) (tk : zTk) (st : List Nat) (c : Nat) (out : List (Nat × Int32)), mFp S M T n b tk o c out → tkOk n 0 tk → c = b + out.length + nOp st → c ≤ 64 → topR st < pr → (nt = true → tk.1 = 8 → tk.2.1 = 5 → 3 < topR st) → n ≤ tk.2.2.1 + m → ∃ M', F M = some M' ∧ mO S T n b l M tk st o c out M'
theorem tkOk_0 {n a : Nat} {tk : zTk} (h : tkOk n a tk) : tkOk n 0 tk := ⟨⟨h.1.1, h.1.2.1, Nat.zero_le _, h.1.2.2.2⟩, h.2⟩
theorem sg_x {n a : Nat} {tk : zTk} (h : tkOk n a tk) : (sgN tk = 40 ↔ tk.1 = 6) ∧ (sgN tk = 41 ↔ tk.1 = 7) ∧ (sgN tk = 59 ↔ tk.1 = 5) ∧ (sgN tk = 42 ↔ tk.1 = 8 ∧ tk.2.1 = 14) ∧ (sgN tk = 47 ↔ tk.1 = 8 ∧ tk.2.1 = 15) ∧ (sgN tk = 43 ↔ tk.1 = 8 ∧ tk.2.1 = 12) ∧ (sgN tk = 45 ↔ tk.1 = 8 ∧ tk.2.1 = 13) := by
  obtain ⟨-, -, o8, -, -⟩ := h
  unfold sgN
  by_cases e5 : tk.1 = 5
  · rw [if_pos e5]; omega
  rw [if_neg e5]
  by_cases e6 : tk.1 = 6
  · rw [if_pos e6]; omega
  rw [if_neg e6]
  by_cases e7 : tk.1 = 7
  · rw [if_pos e7]; omega
  rw [if_neg e7]
  by_cases e8 : tk.1 = 8 ∧ 6 ≤ tk.2.1
  · have f := cdM_f tk.2.1 (by have := o8 e8.1; omega) e8.2
    rw [if_pos e8]
    omega
  · rw [if_neg e8]
    omega
theorem m_nx {S : List (Nat × Nat)} {M : zM} {T : Nat → Nat} {n b o c a : Nat} {out : List (Nat × Int32)} (hx : mTx S M.2.2 M.1 T n) (h24 : M.1 306 24 = 0) (h28 : M.1 306 28 = nI o) (h29 : M.1 306 29 = nI c) (h13 : M.1 308 13 = nI (b + out.length)) (hls : lsM (fun j => M.1 320 (64 + j)) (fun j => M.1 321 (64 + j)) b out) (ha : a ≤ n) (h20 : M.1 306 20 = nI a) :
    ∃ M', gX12_goOn S 306 M = some M' ∧ gX12_token S 306 M = some M' ∧ M'.2.2 = M.2.2 ∧ (∀ x y, ¬ mFq b x y → M'.1 x y = M.1 x y) ∧ mFp S M' T n b (tokS T n a) o c out := by
  obtain ⟨M', e1, e2, e3, e4⟩ := m_token hx ha h20
  refine ⟨M', ?_, e1, e2, fun x y q => e3 x y (by unfold mFq at q; unfold qTk; omega), e2.symm ▸ mTx_cg (fun x y q => e3 x y (by unfold qTk; omega)) hx, e4, (e3 306 24 (by unfold qTk; omega)).trans h24, (e3 306 28 (by unfold qTk; omega)).trans h28, (e3 306 29 (by unfold qTk; omega)).trans h29, (e3 308 13 (by unfold qTk; omega)).trans h13, lsM_cg (fun j _ _ => ⟨e3 320 _ (by unfold qTk; omega), e3 321 _ (by unfold qTk; omega)⟩) hls⟩
  simp (disch := first | omega | simp only [qI2, qL2, qC2, qF2]) only [gX12_goOn, ↓mH hx.1, h24, if_true, ↓bind_of e1]
theorem m_pt {S : List (Nat × Nat)} {M : zM} {T : Nat → Nat} {n b o c : Nat} {tk : zTk} {out : List (Nat × Int32)} {kv : Nat × Int32} (h : mFp S M T n b tk o c out) (h64 : b + out.length < 64) (h3 : kv.1 < 16) (h4 : kv.1 ≠ 2) (h5 : kv.1 = 1 → ∃ j, j < 7 ∧ kv.2 = nI j) :
    ∃ M', gX12_puts S 306 (if kv.1 = 0 then 0 else if kv.1 = 1 then 1 else 2) (if kv.1 = 0 ∨ kv.1 = 1 then kv.2 else nI (cdM kv.1)) M = some M' ∧ M'.2.2 = M.2.2 ∧ (∀ x y, ¬ mFq b x y → M'.1 x y = M.1 x y) ∧ mFp S M' T n b tk o c (out ++ [kv]) := by
  obtain ⟨hx, ⟨t20, t21, tsv⟩, h24, h28, h29, h13, hls⟩ := h
  refine ⟨_, m_puts hx.1 h24 h13 h64, rfl, fun x y q => by unfold mFq at q; rw [zsI_ne (by omega), zsI_ne (by omega), zsI_ne (by omega)], mTx_cg (fun x y q => by rw [zsI_ne (by omega), zsI_ne (by omega), zsI_ne (by omega)]) hx, ⟨by rw [zsI_ne (by omega), zsI_ne (by omega), zsI_ne (by omega)]; exact t20, by rw [zsI_ne (by omega), zsI_ne (by omega), zsI_ne (by omega)]; exact t21, by rw [zsI_ne (by omega), zsI_ne (by omega), zsI_ne (by omega), zsI_ne (by omega), zsI_ne (by omega), zsI_ne (by omega)]; exact tsv⟩, by rw [zsI_ne (by omega), zsI_ne (by omega), zsI_ne (by omega)]; exact h24, by rw [zsI_ne (by omega), zsI_ne (by omega), zsI_ne (by omega)]; exact h28, by rw [zsI_ne (by omega), zsI_ne (by omega), zsI_ne (by omega)]; exact h29, by rw [zsI_at, len_app]; rfl, lsM_app (lsM_cg (fun j k1 k2 => ⟨by rw [zsI_ne (by omega), zsI_ne (by omega), zsI_ne (by omega)], by rw [zsI_ne (by omega), zsI_ne (by omega), zsI_ne (by omega)]⟩) hls) ?_ ?_ h3 h4 h5⟩
  · rw [zsI_ne (by omega), zsI_ne (by omega), zsI_at]
  · rw [zsI_ne (by omega), zsI_at]
theorem mFp_kn {S : List (Nat × Nat)} {M : zM} {T : Nat → Nat} {n b o c : Nat} {tk : zTk} {out : List (Nat × Int32)} (h : mFp S M T n b tk o c out) : mFp S (zsI M 306 29 (nI (c + 1))) T n b tk o (c + 1) out := by
  obtain ⟨hx, ⟨t20, t21, tsv⟩, h24, h28, h29, h13, hls⟩ := h
  exact ⟨mTx_cg (fun x y q => zsI_ne (by omega)) hx, ⟨by rw [zsI_ne (by omega)]; exact t20, by rw [zsI_ne (by omega)]; exact t21, by rw [zsI_ne (by omega), zsI_ne (by omega)]; exact tsv⟩, by rw [zsI_ne (by omega)]; exact h24, by rw [zsI_ne (by omega)]; exact h28, zsI_at _ _ _ _, by rw [zsI_ne (by omega)]; exact h13, lsM_cg (fun j _ _ => ⟨zsI_ne (by omega), zsI_ne (by omega)⟩) hls⟩
theorem mF_goOn {S : List (Nat × Nat)} {M : zM} {T : Nat → Nat} {n b o c : Nat} {tk : zTk} {out : List (Nat × Int32)} (h : mFp S M T n b tk o c out) (hk : tkOk n 0 tk) : ∃ M', gX12_goOn S 306 M = some M' ∧ gX12_token S 306 M = some M' ∧ M'.2.2 = M.2.2 ∧ (∀ x y, ¬ mFq b x y → M'.1 x y = M.1 x y) ∧ mFp S M' T n b (tokS T n tk.2.2.2) o c out := by
  obtain ⟨hx, ⟨t20, t21, tsv⟩, h24, h28, h29, h13, hls⟩ := h
  exact m_nx hx h24 h28 h29 h13 hls hk.1.2.2.2.2 t20
theorem mFq_w {b : Nat} {M : zM} {f p : Int32} : ∀ x y, ¬ mFq b x y → (zsI (zsI M 306 24 f) 306 25 p).1 x y = M.1 x y := fun x y q => by unfold mFq at q; rw [zsI_ne (by omega), zsI_ne (by omega)]
theorem prim_ok {S : List (Nat × Nat)} {T : Nat → Nat} {n b o m : Nat} {rk : Nat → zM → Option zM} (hn7 : n ≤ 700) (ho : o ≤ 8) (hRK : o < 8 → ∀ (M : zM) (tk : zTk) (st : List Nat) (c : Nat) (out : List (Nat × Int32)), mFp S M T n b tk (o + 1) c out → tkOk n 0 tk → c = b + out.length + nOp st → c ≤ 64 → topR st < 1 → n < tk.2.2.1 + m → ∃ M', rk 306 M = some M' ∧ mO S T n b 1 M tk st (o + 1) c out M') : LvOK S T n b o m 7 7 true (gX12_primary S rk 306) := by
  intro M tk st c out hp hk hc h64 hpr hnt hm
  obtain ⟨hx, ⟨t20, t21, tsv⟩, h24, h28, h29, h13, hls⟩ := id hp
  have hS := hx.1
  obtain ⟨⟨o1, o2, -, o5, o6⟩, okp, o8, o3, o4⟩ := id hk
  have n10 : ¬ (1 : Int32) = 0 := by decide
  have d1 : ∀ M' : zM, ¬ (zsI (zsI M' 306 24 1) 306 25 (nI tk.2.2.1)).1 306 24 = 0 := fun M' => by rw [zsI_ne (by omega), zsI_at]; decide
  have d2 : ∀ M' : zM, ¬ (zsI (zsI M' 306 24 2) 306 25 (nI tk.2.2.1)).1 306 24 = 0 := fun M' => by rw [zsI_ne (by omega), zsI_at]; decide
  have e40 := m_isSgn (x := 40) hS h24 tsv hk (by decide) (by decide)
  have nxok := tokS_ok (T := T) (n := n) (a := tk.2.2.2) o6 hn7
  have fa : ∀ f : Nat, (f = 1 ∨ f = 2) → stepA tk (true, st, o, c, out) = .inl f → mO S T n b 7 M tk st o c out (zsI (zsI M 306 24 (nI f)) 306 25 (nI tk.2.2.1)) := fun f h1 h2 => ⟨rfl, mFq_w, Or.inl ⟨0, tk, _, f, rfl, h2, h1, by rw [zsI_ne (by omega), zsI_at], zsI_at _ _ _ _⟩⟩
  have st0 : stepA tk (true, st, o, c, out) = beA tk st o c out := rfl
  by_cases c6 : tk.1 = 6
  · have e40' : gX12_isSign S 306 40 M = some 1 := by
      have : gX12_isSign S 306 40 M = _ := e40
      rw [this, decide_eq_true ((sg_x hk).1.2 c6)]; rfl
    obtain ⟨kp1, kp2⟩ := okp (by omega)
    have be : beA tk st o c out = if 8 ≤ o then .inl 2 else .inr (true, 2 :: st, o + 1, c, out) := by
      unfold beA
      rw [if_neg (by omega), if_neg (by omega), if_pos c6]
    by_cases ho8 : o = 8
    · have v8 : nI o = 8 := by rw [ho8]; rfl
      have w := m_wrong (tk := tk) (f := 2) hS h24 t21
      refine ⟨_, ?_, fa 2 (Or.inr rfl) (by rw [st0, be, if_pos (by omega)])⟩
      have dd := d2 M
      simp (disch := first | omega | simp only [qI2, qL2, qC2, qF2]) only [gX12_primary, ↓mH hS, h24, if_true, ↓bind_of e40', if_neg n10, h28, if_pos v8, ↓bind_of w, gX12_primary_31, if_neg dd]
      rfl
    · have v8 : ¬ nI o = 8 := fun h => ho8 ((nI_eq (b := 8) (by omega) (by decide)).1 h)
      obtain ⟨M4, a0, a1, a2, a3, a4⟩ := m_nx (S := S) (M := zsI M 306 28 (nI (o + 1))) (T := T) (n := n) (b := b) (o := o + 1) (c := c) (a := tk.2.2.2) (out := out) (mTx_cg (fun x y q => zsI_ne (by omega)) hx) (by rw [zsI_ne (by omega)]; exact h24) (zsI_at _ _ _ _) (by rw [zsI_ne (by omega)]; exact h29) (by rw [zsI_ne (by omega)]; exact h13) (lsM_cg (fun j _ _ => ⟨zsI_ne (by omega), zsI_ne (by omega)⟩) hls) o6 (by rw [zsI_ne (by omega)]; exact t20)
      obtain ⟨M5, b1, b2, b3, b4⟩ := hRK (by omega) M4 (tokS T n tk.2.2.2) (2 :: st) c out a4 (tkOk_0 nxok) (by rw [show nOp (2 :: st) = nOp st from by show (if 2 = 2 then 0 else 1) + nOp st = nOp st; rw [if_pos rfl, Nat.zero_add]]; exact hc) h64 (by show rkN 2 < 1; decide) (by have := nxok.1.2.2.1; omega)
      have fr5 : ∀ x y, ¬ mFq b x y → M5.1 x y = M.1 x y := fun x y q => by rw [b3 x y q, a3 x y q, zsI_ne (by unfold mFq at q; omega)]
      have s1 : stepA tk (true, st, o, c, out) = .inr (true, 2 :: st, o + 1, c, out) := by rw [st0, be, if_neg (by omega)]
      have r5 : M5.2.2 = M.2.2 := b2.trans a2
      have hS5 : pMs S M5.2.2 := r5.symm ▸ hS
      have hS4 : pMs S M4.2.2 := by rw [a2]; exact hS
      have pr : gX12_primary S rk 306 M = gX12_primary_31 S rk 306 M := by
        simp (disch := first | omega | simp only [qI2, qL2, qC2, qF2]) only [gX12_primary, ↓mH hS, h24, if_true, ↓bind_of e40', if_neg n10, h28, if_neg v8]
      rcases b4 with b4 | b4
      · have dd := mFa_dead b4
        refine ⟨M5, ?_, r5, fr5, Or.inl (mFa_pre (aIt_1 s1) b4)⟩
        rw [pr]
        simp (disch := first | omega | simp only [qI2, qL2, qC2, qF2]) only [gX12_primary_31, ↓mH hS, h24, if_true, h28, nI_1, ↓bind_of a1, ↓bind_of b1, ↓mH hS5, if_neg dd]
      · obtain ⟨k, tk', pend, c', seg, Lp, g1, g2, g3, g4, g5, g6, g7, g8, g9⟩ := b4
        obtain ⟨hx5, ⟨u20, u21, usv⟩, u24, u28, u29, u13, uls⟩ := id g6
        have e41 := m_isSgn (x := 41) hS5 u24 usv g9 (by decide) (by decide)
        have un : unw 1 (pend ++ 2 :: st) Lp = (2 :: st, out ++ seg) := by
          rw [unw_app g2, g3]
          exact unw_stop (by show rkN 2 < 1; decide)
        have nop2 : nOp (2 :: st) = nOp st := by
          show (if 2 = 2 then 0 else 1) + nOp st = nOp st
          rw [if_pos rfl, Nat.zero_add]
        have ss : stepA tk' (false, pend ++ 2 :: st, o + 1, c', Lp) = enA tk' (pend ++ 2 :: st) (o + 1) c' Lp := by
          show (if false = true then _ else if o + 1 = 0 ∧ tk'.1 = 5 then _ else _) = _
          rw [if_neg Bool.false_ne_true, if_neg (by omega)]
        by_cases c7 : tk'.1 = 7
        · have e41' : gX12_isSign S 306 41 M5 = some 1 := by
            have : gX12_isSign S 306 41 M5 = _ := e41
            rw [this, decide_eq_true ((sg_x g9).2.1.2 c7)]; rfl
          have o1m : nI (o + 1) - 1 = nI o := nI_pred o
          obtain ⟨M8, f0, f1, f2, f3, f4⟩ := m_nx (S := S) (M := zsI M5 306 28 (nI o)) (T := T) (n := n) (b := b) (o := o) (c := c') (a := tk'.2.2.2) (out := out ++ seg) (mTx_cg (fun x y q => zsI_ne (by omega)) hx5) (by rw [zsI_ne (by omega)]; exact u24) (zsI_at _ _ _ _) (by rw [zsI_ne (by omega)]; exact u29) (by rw [zsI_ne (by omega)]; exact u13) (lsM_cg (fun j _ _ => ⟨zsI_ne (by omega), zsI_ne (by omega)⟩) uls) g9.1.2.2.2.2 (by rw [zsI_ne (by omega)]; exact u20)
          have s2 : stepA tk' (false, pend ++ 2 :: st, o + 1, c', Lp) = .inr (false, st, o, c', out ++ seg) := by
            rw [ss]
            unfold enA
            rw [if_pos ⟨c7, Nat.succ_pos o⟩, un]
            rfl
          have nk := tokS_ok (T := T) (n := n) (a := tk'.2.2.2) g9.1.2.2.2.2 hn7
          refine ⟨M8, ?_, f2.trans r5, fun x y q => by rw [f3 x y q, zsI_ne (by unfold mFq at q; omega)]; exact fr5 x y q, Or.inr ⟨1 + k + 1, tokS T n tk'.2.2.2, [], c', seg, out ++ seg, aIt_a (aIt_a (aIt_1 s1) g1) (aIt_1 s2), fun x hx => (by cases hx), List.append_nil _, g4, ?_, f4, ?_, g8, ?_⟩⟩
          · rw [pr]
            simp (disch := first | omega | simp only [qI2, qL2, qC2, qF2]) only [gX12_primary_31, ↓mH hS, h24, if_true, h28, nI_1, ↓bind_of a1, ↓bind_of b1, ↓mH hS5, u24, ↓bind_of e41', if_neg n10, u28, o1m, ↓bind_of f1]
          · exact ⟨fun h => by omega, fun h => by omega, fun h => by omega, fun h => by omega, fun h => by omega⟩
          · rw [g7, nop2]
          · exact ⟨⟨nk.1.1, nk.1.2.1, by have := nk.1.2.2.1; have := g9.1.2.2.1; have := g9.1.2.2.2.1; have := nxok.1.2.2.1; have := nxok.1.2.2.2.1; omega, nk.1.2.2.2⟩, nk.2⟩
        · have e41' : gX12_isSign S 306 41 M5 = some 0 := by
            have : gX12_isSign S 306 41 M5 = _ := e41
            rw [this, decide_eq_false (fun h => c7 ((sg_x g9).2.1.1 h))]; rfl
          have w := m_wrong (tk := tk') (f := 1) hS5 u24 u21
          have dd : ¬ (zsI (zsI M5 306 24 1) 306 25 (nI tk'.2.2.1)).1 306 24 = 0 := by rw [zsI_ne (by omega), zsI_at]; decide
          have s2 : stepA tk' (false, pend ++ 2 :: st, o + 1, c', Lp) = .inl 1 := by
            rw [ss]
            unfold enA
            rw [if_neg (fun h => c7 h.1)]
            by_cases c8 : tk'.1 = 8 ∧ tk'.2.1 ≠ 5
            · rw [if_pos c8]
              obtain ⟨q1, q2, q3, q4, q5⟩ := g5
              have v8 := g9.2.2.1 c8.1
              have x2 := q2 (by omega)
              have x4 := q4 (by omega)
              have x5 := q5 (by omega)
              have x3 := q3 (by omega) c8.1 (by omega)
              have r4 : rkN tk'.2.1 = 4 := by
                unfold rkN
                rw [if_neg (by omega), if_neg (by omega), if_pos (by omega)]
              unfold enB
              rw [if_pos r4, if_pos ⟨r4, x3⟩]
            · rw [if_neg c8]
          refine ⟨zsI (zsI M5 306 24 1) 306 25 (nI tk'.2.2.1), ?_, r5, fun x y q => (mFq_w x y q).trans (fr5 x y q), Or.inl ⟨1 + k, tk', _, 1, aIt_a (aIt_1 s1) g1, s2, Or.inl rfl, by rw [zsI_ne (by omega), zsI_at]; rfl, zsI_at _ _ _ _⟩⟩
          rw [pr]
          simp (disch := first | omega | simp only [qI2, qL2, qC2, qF2]) only [gX12_primary_31, ↓mH hS, h24, if_true, h28, nI_1, ↓bind_of a1, ↓bind_of b1, ↓mH hS5, u24, ↓bind_of e41', ↓bind_of w, if_neg dd]
  · have e40' : gX12_isSign S 306 40 M = some 0 := by
      have : gX12_isSign S 306 40 M = _ := e40
      rw [this, decide_eq_false (fun h => c6 ((sg_x hk).1.1 h))]; rfl
    have tell : ∀ (M1 : zM) (kv : Nat × Int32) (s0 : Int32) (y0 : Int32), (kv.1 = 0 ∨ kv.1 = 1) → s0 = (if kv.1 = 0 then 0 else if kv.1 = 1 then 1 else 2) → y0 = kv.2 → (kv.1 = 1 → ∃ j, j < 7 ∧ kv.2 = nI j) → M1 = zsI M 306 29 (nI (c + 1)) → c < 64 → stepA tk (true, st, o, c, out) = .inr (false, st, o, c + 1, out ++ [kv]) → (∀ d, dep [kv] d = some (d + 1)) → ∃ M5 M6, gX12_puts S 306 s0 y0 M1 = some M5 ∧ gX12_goOn S 306 M5 = some M6 ∧ M5.2.2 = M.2.2 ∧ mO S T n b 7 M tk st o c out M6 := by
      intro M1 kv s0 y0 k1 k2 k3 k4 k5 k6 k7 k8
      subst k5
      obtain ⟨M5, a1, a2, a3, a4⟩ := m_pt (kv := kv) (mFp_kn hp) (by omega) (by omega) (by omega) k4
      rw [if_pos k1, ← k2, ← k3] at a1
      obtain ⟨M6, b1, b2, b3, b4, b5⟩ := mF_goOn a4 hk
      refine ⟨M5, M6, a1, b1, a2, b3.trans a2, fun x y q => by rw [b4 x y q, a3 x y q, zsI_ne (by unfold mFq at q; omega)], Or.inr ⟨1, tokS T n tk.2.2.2, [], c + 1, [kv], out ++ [kv], aIt_1 k7, fun x hx => (by cases hx), List.append_nil _, k8, ⟨fun h => by omega, fun h => by omega, fun h => by omega, fun h => by omega, fun h => by omega⟩, b5, by rw [len_app]; omega, by omega, nxok⟩⟩
    by_cases c4 : tk.1 = 4
    · obtain ⟨s2, mm, v, nr1, nr2, nr3⟩ := tsv.2.2.2.2.1 c4
      have be : beA tk st o c out = if 9999 < tk.2.1 then .inl 2 else if 64 ≤ c then .inl 2 else .inr (false, st, o, c + 1, out ++ [(0, nI tk.2.1)]) := by
        unfold beA
        rw [if_pos c4]
      have li9 : (9999 : Int32) = nI 9999 := rfl
      by_cases a1 : 9999 < tk.2.1
      · have m9 : ¬ mm ≤ 9999 := by
          rcases Nat.lt_or_ge 99999 tk.2.1 with h | h
          · have := nr2 h; omega
          · have := nr1 h; omega
        have w := m_wrong (tk := tk) (f := 2) hS h24 t21
        have dd := d2 M
        have hS1 : pMs S (zsI (zsI M 306 24 2) 306 25 (nI tk.2.2.1)).2.2 := hS
        have dk := d_knot hS1 dd
        have dp := fun x y => d_puts hS1 dd x y
        have dg := d_goOn hS1 dd
        refine ⟨_, ?_, fa 2 (Or.inr rfl) (by rw [st0, be, if_pos a1])⟩
        simp (disch := first | omega | simp only [qI2, qL2, qC2, qF2]) only [gX12_primary, ↓mH hS, h24, if_true, ↓bind_of e40', s2, gX12_primary_114, if_neg n10, v, li9, nI_leI, if_neg m9, ↓bind_of w, ↓bind_of dk, gX12_primary_176, ↓bind_of (dp _ _), ↓bind_of dg]
        rfl
      · have mv : mm = tk.2.1 := nr1 (by omega)
        subst mv
        have m9 : tk.2.1 ≤ 9999 := by omega
        by_cases h6 : 64 ≤ c
        · have c64 : c = 64 := by omega
          have dk := m_knotF (tk := tk) hS h24 t21 (by rw [h29, c64])
          have dd := d2 M
          have hS1 : pMs S (zsI (zsI M 306 24 2) 306 25 (nI tk.2.2.1)).2.2 := hS
          have dp := fun x y => d_puts hS1 dd x y
          have dg := d_goOn hS1 dd
          refine ⟨_, ?_, fa 2 (Or.inr rfl) (by rw [st0, be, if_neg a1, if_pos h6])⟩
          simp (disch := first | omega | simp only [qI2, qL2, qC2, qF2]) only [gX12_primary, ↓mH hS, h24, if_true, ↓bind_of e40', s2, gX12_primary_114, if_neg n10, v, li9, nI_leI, if_pos m9, gX12_primary_137, ↓bind_of dk, gX12_primary_176, ↓bind_of (dp _ _), ↓bind_of dg]
          rfl
        · have dk := m_knotO hS h24 h29 (by omega)
          obtain ⟨M5, M6, p1, p2, p3, p4⟩ := tell (zsI M 306 29 (nI (c + 1))) (0, nI tk.2.1) 0 (nI tk.2.1) (Or.inl rfl) rfl rfl (fun h => by cases h) rfl (by omega) (by rw [st0, be, if_neg a1, if_neg h6]) (fun d => rfl)
          have v' : (zsI M 306 29 (nI (c + 1))).1 306 23 = nI tk.2.1 := by rw [zsI_ne (by omega)]; exact v
          have hS5 : pMs S M5.2.2 := p3.symm ▸ hS
          refine ⟨M6, ?_, p4⟩
          simp (disch := first | omega | simp only [qI2, qL2, qC2, qF2]) only [gX12_primary, ↓mH hS, h24, if_true, ↓bind_of e40', s2, gX12_primary_114, if_neg n10, v, li9, nI_leI, if_pos m9, gX12_primary_137, ↓bind_of dk, gX12_primary_176, v', ↓bind_of p1, ↓bind_of p2]
    · have ns2 : ¬ M.1 306 22 = 2 := by
        obtain ⟨z0, z1, z2, z3, z4, z5, z6, z7, z8⟩ := tsv
        rcases (show tk.1 = 0 ∨ tk.1 = 1 ∨ tk.1 = 2 ∨ tk.1 = 3 ∨ tk.1 = 5 ∨ tk.1 = 7 ∨ tk.1 = 8 by omega) with e | e | e | e | e | e | e
        · rw [z0 e]; decide
        · rw [z1 e]; decide
        · rw [(z2 e).1]; decide
        · rw [(z3 e).1]; decide
        · rw [(z5 e).1]; decide
        · rw [(z7 e).1]; decide
        · by_cases g : 6 ≤ tk.2.1
          · rw [((z8 e).2 g).1]; decide
          · rw [((z8 e).1 (by omega)).1]; decide
      have p37 : gX12_primary S rk 306 M = gX12_primary_137 S rk 306 0 M := by
        simp (disch := first | omega | simp only [qI2, qL2, qC2, qF2]) only [gX12_primary, ↓mH hS, h24, if_true, ↓bind_of e40', if_neg ns2, gX12_primary_114]
      rw [p37]
      have li13 : (13 : Int32) = nI 13 := rfl
      by_cases c3 : tk.1 = 3 ∧ 13 ≤ tk.2.1
      · obtain ⟨s0, v⟩ := tsv.2.2.2.1 c3.1
        have o3' := o3 c3.1
        have be : beA tk st o c out = if 64 ≤ c then .inl 2 else .inr (false, st, o, c + 1, out ++ [(1, nI (tk.2.1 - 13))]) := by
          unfold beA
          rw [if_neg c4, if_pos c3]
        have a13 : 13 ≤ tk.2.1 := c3.2
        by_cases h6 : 64 ≤ c
        · have c64 : c = 64 := by omega
          have dk := m_knotF (tk := tk) hS h24 t21 (by rw [h29, c64])
          have dd := d2 M
          have hS1 : pMs S (zsI (zsI M 306 24 2) 306 25 (nI tk.2.2.1)).2.2 := hS
          have dp := fun x y => d_puts hS1 dd x y
          have dg := d_goOn hS1 dd
          refine ⟨_, ?_, fa 2 (Or.inr rfl) (by rw [st0, be, if_pos h6])⟩
          simp (disch := first | omega | simp only [qI2, qL2, qC2, qF2]) only [gX12_primary_137, ↓mH hS, if_true, s0, v, li13, nI_leI, if_pos a13, ↓bind_of dk, gX12_primary_176, ↓bind_of (dp _ _), ↓bind_of dg]
          rfl
        · have dk := m_knotO hS h24 h29 (by omega)
          obtain ⟨M5, M6, p1, p2, p3, p4⟩ := tell (zsI M 306 29 (nI (c + 1))) (1, nI (tk.2.1 - 13)) 1 (nI (tk.2.1 - 13)) (Or.inr rfl) rfl rfl (fun h => ⟨tk.2.1 - 13, by omega, rfl⟩) rfl (by omega) (by rw [st0, be, if_neg h6]) (fun d => rfl)
          have v' : (zsI M 306 29 (nI (c + 1))).1 306 23 = nI tk.2.1 := by rw [zsI_ne (by omega)]; exact v
          have sb : nI tk.2.1 - nI 13 = nI (tk.2.1 - 13) := pk_sub a13
          have hS5 : pMs S M5.2.2 := p3.symm ▸ hS
          refine ⟨M6, ?_, p4⟩
          simp (disch := first | omega | simp only [qI2, qL2, qC2, qF2]) only [gX12_primary_137, ↓mH hS, if_true, s0, v, li13, nI_leI, if_pos a13, ↓bind_of dk, gX12_primary_176, v']
          rw [sb]
          simp (disch := first | omega | simp only [qI2, qL2, qC2, qF2]) only [↓bind_of p1, ↓bind_of p2]
      · have be : beA tk st o c out = .inl 1 := by
          unfold beA
          rw [if_neg c4, if_neg c3, if_neg c6, if_neg]
          rintro ⟨⟨h1, h2⟩, h3⟩
          have := hnt rfl h1 h2
          omega
        have w := m_wrong (tk := tk) (f := 1) hS h24 t21
        have dd := d1 M
        have hS1 : pMs S (zsI (zsI M 306 24 1) 306 25 (nI tk.2.2.1)).2.2 := hS
        have dk := d_knot hS1 dd
        have dp := fun x y => d_puts hS1 dd x y
        have dg := d_goOn hS1 dd
        refine ⟨_, ?_, fa 1 (Or.inl rfl) (by rw [st0, be])⟩
        by_cases s0 : M.1 306 22 = 0
        · have hv : ∃ j, M.1 306 23 = nI j ∧ j < 13 := by
            obtain ⟨z0, z1, z2, z3, z4, z5, z6, z7, z8⟩ := tsv
            rcases (show tk.1 = 0 ∨ tk.1 = 1 ∨ tk.1 = 2 ∨ tk.1 = 3 ∨ tk.1 = 5 ∨ tk.1 = 7 ∨ tk.1 = 8 by omega) with e | e | e | e | e | e | e
            · rw [z0 e] at s0; exact absurd s0 (by decide)
            · rw [z1 e] at s0; exact absurd s0 (by decide)
            · rw [(z2 e).1] at s0; exact absurd s0 (by decide)
            · exact ⟨tk.2.1, (z3 e).2, by omega⟩
            · rw [(z5 e).1] at s0; exact absurd s0 (by decide)
            · rw [(z7 e).1] at s0; exact absurd s0 (by decide)
            · by_cases g : 6 ≤ tk.2.1
              · rw [((z8 e).2 g).1] at s0; exact absurd s0 (by decide)
              · exact ⟨tk.2.1 + 7, ((z8 e).1 (by omega)).2, by omega⟩
          obtain ⟨j, vj, j13⟩ := hv
          have a13 : ¬ 13 ≤ j := by omega
          simp (disch := first | omega | simp only [qI2, qL2, qC2, qF2]) only [gX12_primary_137, ↓mH hS, if_true, s0, vj, li13, nI_leI, if_neg a13, ↓bind_of w, ↓bind_of dk, gX12_primary_176, ↓bind_of (dp _ _), ↓bind_of dg]
          rfl
        · simp (disch := first | omega | simp only [qI2, qL2, qC2, qF2]) only [gX12_primary_137, ↓mH hS, if_true, if_neg s0, ↓bind_of w, ↓bind_of dk, gX12_primary_176, ↓bind_of (dp _ _), ↓bind_of dg]
          rfl
