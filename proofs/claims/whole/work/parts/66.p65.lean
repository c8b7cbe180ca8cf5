/-! pure part 65: formulas: the automaton; the class -/
abbrev zAu : Type := Bool × List Nat × Nat × Nat × List (Nat × Int32)
def rkN (k : Nat) : Nat := if 14 ≤ k then 6 else if 12 ≤ k then 5 else if 6 ≤ k then 4 else k - 2
def unw (r : Nat) : List Nat → List (Nat × Int32) → List Nat × List (Nat × Int32)
  | [], o => ([], o)
  | k :: st, o => if r ≤ rkN k then unw r st (o ++ [(k, 0)]) else (k :: st, o)
def topR (st : List Nat) : Nat := match st with | [] => 0 | k :: _ => rkN k
def nOp : List Nat → Nat
  | [] => 0
  | k :: st => (if k = 2 then 0 else 1) + nOp st
def nPa : List Nat → Nat
  | [] => 0
  | k :: st => (if k = 2 then 1 else 0) + nPa st
theorem nOP (st : List Nat) : nOp st + nPa st = st.length := by
  induction st with
  | nil => rfl
  | cons k st ih =>
    show (if k = 2 then 0 else 1) + nOp st + ((if k = 2 then 1 else 0) + nPa st) = st.length + 1
    split <;> omega
def kOk : List Nat → Prop
  | [] => True
  | k :: st => (2 ≤ k ∧ k < 16) ∧ kOk st
abbrev zAs : Type := Nat ⊕ zAu
def beA (tk : zTk) (st : List Nat) (o c : Nat) (out : List (Nat × Int32)) : zAs := if tk.1 = 4 then (if 9999 < tk.2.1 then .inl 2 else if 64 ≤ c then .inl 2 else .inr (false, st, o, c + 1, out ++ [(0, nI tk.2.1)])) else if tk.1 = 3 ∧ 13 ≤ tk.2.1 then (if 64 ≤ c then .inl 2 else .inr (false, st, o, c + 1, out ++ [(1, nI (tk.2.1 - 13))])) else if tk.1 = 6 then (if 8 ≤ o then .inl 2 else .inr (true, 2 :: st, o + 1, c, out)) else if (tk.1 = 8 ∧ tk.2.1 = 5) ∧ topR st ≤ 3 then (if 64 ≤ c then .inl 2 else .inr (true, 5 :: st, o, c + 1, out)) else .inl 1
def enB (v : Nat) (q : List Nat × List (Nat × Int32)) (o c : Nat) : zAs := if rkN v = 4 ∧ topR q.1 = 4 then .inl 1 else if 64 ≤ c then .inl 2 else .inr (true, v :: q.1, o, c + 1, q.2)
def enA (tk : zTk) (st : List Nat) (o c : Nat) (out : List (Nat × Int32)) : zAs := if tk.1 = 7 ∧ 0 < o then .inr (false, (unw 1 st out).1.tail, o - 1, c, (unw 1 st out).2) else if tk.1 = 8 ∧ tk.2.1 ≠ 5 then enB tk.2.1 (unw (if rkN tk.2.1 = 4 then 5 else rkN tk.2.1) st out) o c else .inl 1
def stepA (tk : zTk) (s : zAu) : zAs := if s.1 then beA tk s.2.1 s.2.2.1 s.2.2.2.1 s.2.2.2.2 else if s.2.2.1 = 0 ∧ tk.1 = 5 then .inl 9 else enA tk s.2.1 s.2.2.1 s.2.2.2.1 s.2.2.2.2
/-- the class's frame in a formula -/
def skP (I : Nat → Nat → Int32) : List Nat → Prop
  | [] => True
  | k :: st => I 42 st.length = nI k ∧ skP I st
theorem skP_cg {I I' : Nat → Nat → Int32} : ∀ {st : List Nat}, (∀ j, j < st.length → I' 42 j = I 42 j) → skP I st → skP I' st
  | [], _, _ => trivial
  | k :: st, h, ⟨a, b⟩ => ⟨(h st.length (Nat.lt_succ_self _)).trans a, skP_cg (fun j hj => h j (Nat.lt_succ_of_lt hj)) b⟩
theorem lsP_cg {f f' g g' : Nat → Int32} : ∀ {L : List (Nat × Int32)} {b : Nat}, (∀ j, b ≤ j → j < b + L.length → f' j = f j ∧ g' j = g j) → lsP f g b L → lsP f' g' b L
  | [], _, _, _ => trivial
  | kv :: L, b, h, ⟨h1, h2, h3, h4, h5, h6⟩ => by
    have hl : (kv :: L).length = L.length + 1 := rfl
    exact ⟨(h b (Nat.le_refl _) (by omega)).1.trans h1, (h b (Nat.le_refl _) (by omega)).2.trans h2, h3, h4, h5, lsP_cg (fun j k1 k2 => h j (by omega) (by omega)) h6⟩
theorem lsP_app {f g : Nat → Int32} {kv : Nat × Int32} : ∀ {L : List (Nat × Int32)} {b : Nat}, lsP f g b L → f (b + L.length) = nI kv.1 → g (b + L.length) = kv.2 → kv.1 < 16 → kv.1 ≠ 2 → (kv.1 = 1 → ∃ j, j < 7 ∧ kv.2 = nI j) → lsP f g b (L ++ [kv])
  | [], b, _, h1, h2, h3, h4, h5 => ⟨h1, h2, h3, h4, h5, trivial⟩
  | x :: L, b, ⟨k1, k2, k3, k4, k5, k6⟩, h1, h2, h3, h4, h5 => by
    have e : b + (x :: L).length = b + 1 + L.length := by
      have hl : (x :: L).length = L.length + 1 := rfl
      omega
    rw [e] at h1 h2
    exact ⟨k1, k2, k3, k4, k5, lsP_app k6 h1 h2 h3 h4 h5⟩
theorem len_app {α : Type} (L : List α) (x : α) : (L ++ [x]).length = L.length + 1 := by simp
theorem c_addk {S : List (Nat × Nat)} {M : zM} {u kn : Nat} {k v : Int32} (hu : pLw S M.2.2 u) (hk : M.1 u 6 = nI kn) (h : kn < 64) : gX1_add S u k v M = some (zsI (zsI (zsI M (u + 2) kn k) (u + 4) kn v) u 6 (nI (kn + 1))) := by
  obtain ⟨h0, r0, r1, -, -, -, -, p1, p3, -, -, -, -⟩ := hu
  have a1 : (zsI M (u + 1 + 1) kn k).1 u 6 = nI kn := by rw [zsI_ne (by omega)]; exact hk
  have a2 : (zsI (zsI M (u + 1 + 1) kn k) (u + 3 + 1) kn v).1 u 6 = nI kn := by rw [zsI_ne (by omega)]; exact a1
  unfold gX1_add
  rw [zgR_ok h0 r0, zgI_ok h0, zrc_ok p1.1, hk, e_set p1 h, Option.bind_some, zgR_ok h0 (by rw [qI2]; exact r1), zgI_ok h0, zrc_ok p3.1, a1, e_setR p3 h (zsI M (u + 1 + 1) kn k) (by rw [qI2]), Option.bind_some, zgI_ok h0, zpI_ok h0, a2, nI_1]
theorem c_fails {S : List (Nat × Nat)} {M : zM} {p : Nat} {f : Int32} (hS : zShp S) (hR : pRf M.2.2) (h : M.1 4 4 = nI p) : gX3_fails S 3 f M = some (0, zsI (zsI M 3 2 f) 3 3 (nI p)) := by
  have P := cP hS hR
  simp (disch := first | omega | simp only [qI2, qL2, qC2, qF2]) only [gX3_fails, ↓P, zsI_ne, h]
theorem c_rank {S : List (Nat × Nat)} {M : zM} {k : Nat} (h2 : 2 ≤ k) (h : k < 100) : gX3_rank S (nI k) M = some (nI (rkN k)) := by
  unfold gX3_rank rkN
  rw [show (14 : Int32) = nI 14 from rfl, show (12 : Int32) = nI 12 from rfl, show (6 : Int32) = nI 6 from rfl, show (2 : Int32) = nI 2 from rfl]
  by_cases a : 14 ≤ k
  · rw [if_neg (nI_nlt a (by omega)), if_pos a]
  · rw [if_pos (nI_lt (by omega) (by omega)), if_neg a]
    by_cases b : 12 ≤ k
    · rw [if_neg (nI_nlt b (by omega)), if_pos b]; rfl
    · rw [if_pos (nI_lt (by omega) (by omega)), if_neg b]
      by_cases c : 6 ≤ k
      · rw [if_neg (nI_nlt c (by omega)), if_pos c]; rfl
      · rw [if_pos (nI_lt (by omega) (by omega)), if_neg c, pk_sub h2]
def cFb (S : List (Nat × Nat)) (R : Nat → Nat → Option Nat) (t : Nat) : Prop := zShp S ∧ pRf R ∧ (t = 43 ∨ t = 75) ∧ R 3 1 = some t
def cFp (I : Nat → Nat → Int32) (t b : Nat) (st : List Nat) (o c : Nat) (out : List (Nat × Int32)) : Prop := I 3 7 = nI st.length ∧ skP I st ∧ I 3 8 = nI o ∧ I 3 9 = nI c ∧ I (t + 21) 6 = nI (b + out.length) ∧ lsP (I (t + 23)) (I (t + 25)) b out ∧ kOk st ∧ (c = b + out.length + nOp st ∧ nPa st = o ∧ c ≤ 64 ∧ o ≤ 8)
/-- what a formula may change -/
def cFq (t b x y : Nat) : Prop := (x = 3 ∧ 7 ≤ y) ∨ x = 42 ∨ (x = t + 21 ∧ y = 6) ∨ ((x = t + 23 ∨ x = t + 25) ∧ b ≤ y)
theorem c_unw {S : List (Nat × Nat)} {R : Nat → Nat → Option Nat} {I : Nat → Nat → Int32} {t b r o c : Nat} (hb : cFb S R t) (hr : r ≤ 6) : ∀ (st : List Nat) (fu : Nat) (out : List (Nat × Int32)) (M : zM), M.2.2 = R → (∀ x y, ¬ cFq t b x y → M.1 x y = I x y) → cFp M.1 t b st o c out → (1 ≤ r ∨ o = 0) → st.length < fu →
    ∃ M', gX3_unwind_7 S fu 3 (nI r) (nI st.length + (-1)) M = some M' ∧ M'.2.2 = R ∧ (∀ x y, ¬ cFq t b x y → M'.1 x y = I x y) ∧ cFp M'.1 t b (unw r st out).1 o c (unw r st out).2 := by
  obtain ⟨hS, hR, ht, h31⟩ := hb
  have P := cP hS hR
  have hT := pTs_of hS hR t (Or.inr ht)
  have F := tG hT
  have gD : ∀ (ρ : Type) (M' : zM) (f : Nat → Option ρ), M'.2.2 = R → zgR S M' 3 3 10 1 f = f t := fun ρ M' f h => zgR_of ((hS 3 (by decide)).trans rfl) h31 M' f h
  have hu := pLw_of hS hR (t + 21) (by omega)
  intro st
  induction st with
  | nil =>
    intro fu out M hMR hI hp hr1 hf
    obtain ⟨fu, rfl⟩ : ∃ f, fu = f + 1 := ⟨fu - 1, by omega⟩
    have c0 : (nI 0 + (-1 : Int32)) < 0 := by decide
    refine ⟨M, ?_, hMR, hI, hp⟩
    show gX3_unwind_7 S (fu + 1) 3 (nI r) (nI 0 + (-1)) M = some M
    simp only [gX3_unwind_7, if_pos c0]
  | cons k st ih =>
    intro fu out M hMR hI hp hr1 hf
    obtain ⟨fu, rfl⟩ : ∃ f, fu = f + 1 := ⟨fu - 1, by omega⟩
    obtain ⟨p1, p2, p3, p4, p5, p6, p7, p8, p9, p10, p11⟩ := hp
    have hl : (k :: st).length = st.length + 1 := rfl
    have op := nOP (k :: st)
    have l72 : st.length < 72 := by omega
    have c0 : ¬ nI st.length < 0 := nI_pos (by omega)
    have gk : M.1 42 st.length = nI k := p2.1
    have rk := c_rank (S := S) (M := M) p7.1.1 (by have := p7.1.2; omega)
    have r6 : rkN k ≤ 6 := by
      have := p7.1.2
      unfold rkN
      split
      · omega
      · split
        · omega
        · split <;> omega
    rw [hl, pk_m1]
    show ∃ M', gX3_unwind_7 S (fu + 1) 3 (nI r) (nI st.length) M = some M' ∧ M'.2.2 = R ∧ (∀ x y, ¬ cFq t b x y → M'.1 x y = I x y) ∧ cFp M'.1 t b (if r ≤ rkN k then unw r st (out ++ [(k, 0)]) else (k :: st, out)).1 o c (if r ≤ rkN k then unw r st (out ++ [(k, 0)]) else (k :: st, out)).2
    by_cases h : r ≤ rkN k
    · have hk2 : k ≠ 2 := fun e => by
        subst e
        have n0 : nPa (2 :: st) = 1 + nPa st := rfl
        have n1 : rkN 2 = 0 := rfl
        omega
      have nop : nOp (k :: st) = 1 + nOp st := by
        show (if k = 2 then 0 else 1) + nOp st = 1 + nOp st
        rw [if_neg hk2]
      have npa : nPa (k :: st) = nPa st := by
        show (if k = 2 then 1 else 0) + nPa st = nPa st
        rw [if_neg hk2, Nat.zero_add]
      have hc : ¬ rkN k < r := by omega
      have ad := c_addk (S := S) (M := M) (u := t + 21) (kn := b + out.length) (k := nI k) (v := 0) (hMR ▸ hu) p5 (by omega)
      rw [if_pos h]
      have hI2 : ∀ x y, ¬ cFq t b x y → (zsI (zsI (zsI (zsI M (t + 21 + 2) (b + out.length) (nI k)) (t + 21 + 4) (b + out.length) 0) (t + 21) 6 (nI (b + out.length + 1))) 3 7 (nI st.length)).1 x y = I x y := fun x y q => by
        unfold cFq at q
        rw [zsI_ne (by omega), zsI_ne (by omega), zsI_ne (by omega), zsI_ne (by omega)]
        exact hI x y q
      obtain ⟨M', e1, e2, e3, e4⟩ := ih fu (out ++ [(k, 0)]) _ (by exact hMR) hI2 ⟨zsI_at _ _ _ _, skP_cg (fun j hj => by rw [zsI_ne (by omega), zsI_ne (by omega), zsI_ne (by omega), zsI_ne (by omega)]) p2.2, by rw [zsI_ne (by omega), zsI_ne (by omega), zsI_ne (by omega), zsI_ne (by omega)]; exact p3, by rw [zsI_ne (by omega), zsI_ne (by omega), zsI_ne (by omega), zsI_ne (by omega)]; exact p4, by rw [len_app, zsI_ne (by omega), zsI_at, Nat.add_assoc], lsP_app (lsP_cg (fun j k1 k2 => ⟨by rw [zsI_ne (by omega), zsI_ne (by omega), zsI_ne (by omega), zsI_ne (by omega)], by rw [zsI_ne (by omega), zsI_ne (by omega), zsI_ne (by omega), zsI_ne (by omega)]⟩) p6) (by rw [zsI_ne (by omega), zsI_ne (by omega), zsI_ne (by omega), zsI_at]) (by rw [zsI_ne (by omega), zsI_ne (by omega), zsI_at]) p7.1.2 hk2 (fun e => by have h1 : k = 1 := e; have := p7.1.1; omega), p7.2, by rw [len_app]; omega, by omega, p10, p11⟩ hr1 (by omega)
      refine ⟨M', ?_, e2, e3, e4⟩
      rw [← e1]
      simp (disch := first | omega | simp only [qI2, hMR]) only [gX3_unwind_7, ↓if_neg c0, ↓P, gk, ↓bind_of rk, nI_ltI, if_neg hc, ↓gD, ↓F, ↓bind_of ad]
    · have hc : rkN k < r := by omega
      rw [if_neg h]
      refine ⟨M, ?_, hMR, hI, ⟨p1, p2, p3, p4, p5, p6, p7, p8, p9, p10, p11⟩⟩
      simp (disch := first | omega | simp only [qI2, hMR]) only [gX3_unwind_7, ↓if_neg c0, ↓P, gk, ↓bind_of rk, nI_ltI, if_pos hc]
theorem c_unwind {S : List (Nat × Nat)} {M : zM} {t b r o c : Nat} {st : List Nat} {out : List (Nat × Int32)} (hb : cFb S M.2.2 t) (hr : r ≤ 6) (hp : cFp M.1 t b st o c out) (hr1 : 1 ≤ r ∨ o = 0) :
    ∃ M', gX3_unwind S 3 (nI r) M = some M' ∧ M'.2.2 = M.2.2 ∧ (∀ x y, ¬ cFq t b x y → M'.1 x y = M.1 x y) ∧ cFp M'.1 t b (unw r st out).1 o c (unw r st out).2 := by
  have P := cP hb.1 hb.2.1
  have op := nOP st
  obtain ⟨M', e1, e2⟩ := c_unw (I := M.1) hb hr st zfu out M rfl (fun _ _ _ => rfl) hp hr1 (by have := hp.2.2.2.2.2.2.2; unfold zfu; omega)
  refine ⟨M', ?_, e2⟩
  rw [← e1]
  have h7 := hp.1
  simp (disch := first | omega | simp only [qI2, qL2, qC2, qF2]) only [gX3_unwind, ↓P, h7]
  rw [Int32.sub_eq_add_neg]
theorem c_top {S : List (Nat × Nat)} {M : zM} {t b o c : Nat} {st : List Nat} {out : List (Nat × Int32)} (hb : cFb S M.2.2 t) (hp : cFp M.1 t b st o c out) : ∃ k, gX3_topWaiting S 3 M = some (nI k) ∧ 2 ≤ k ∧ k < 16 ∧ rkN k = topR st := by
  have P := cP hb.1 hb.2.1
  obtain ⟨p1, p2, p3, p4, p5, p6, p7, p8, p9, p10, p11⟩ := hp
  have op := nOP st
  cases st with
  | nil =>
    have c0 : nI ([] : List Nat).length ≤ 0 := by decide
    refine ⟨2, ?_, by omega, by omega, rfl⟩
    simp (disch := first | omega | simp only [qI2, qL2, qC2, qF2]) only [gX3_topWaiting, ↓P, p1, if_pos c0]
    rfl
  | cons k st =>
    have hl : (k :: st).length = st.length + 1 := rfl
    have c0 : ¬ nI (k :: st).length ≤ 0 := nI_nle (by omega) (by omega)
    have gk : M.1 42 st.length = nI k := p2.1
    refine ⟨k, ?_, p7.1.1, p7.1.2, rfl⟩
    simp (disch := first | omega | simp only [qI2, qL2, qC2, qF2]) only [gX3_topWaiting, ↓P, p1, if_neg c0]
    rw [hl, nI_pred]
    simp (disch := first | omega | simp only [qI2, qL2, qC2, qF2]) only [↓P, gk]
/-- what comes of a step -/
def cSr (M0 : zM) (t b : Nat) (tk : zTk) (r : zAs) (v : Int32) (M' : zM) : Prop := M'.2.2 = M0.2.2 ∧ (∀ x y, ¬ cFq t b x y → ¬ (x = 3 ∧ (y = 2 ∨ y = 3)) → M'.1 x y = M0.1 x y) ∧ (∀ f, r = .inl f → v = 0 ∧ M'.1 3 2 = nI f ∧ M'.1 3 3 = nI tk.2.2.1) ∧ (∀ s, r = .inr s → v = 1 ∧ cFp M'.1 t b s.2.1 s.2.2.1 s.2.2.2.1 s.2.2.2.2 ∧ M'.1 3 2 = M0.1 3 2)
theorem cSr_f {S : List (Nat × Nat)} {M0 M : zM} {t b f : Nat} {tk : zTk} (hS : zShp S) (hR : pRf M.2.2) (h1 : M.2.2 = M0.2.2) (h2 : ∀ x y, ¬ cFq t b x y → M.1 x y = M0.1 x y) (ht : t = 43 ∨ t = 75) (h44 : M0.1 4 4 = nI tk.2.2.1) : ∃ M', gX3_fails S 3 (nI f) M = some (0, M') ∧ cSr M0 t b tk (.inl f) 0 M' := by
  have e := c_fails (S := S) (M := M) (p := tk.2.2.1) (f := nI f) hS hR ((h2 4 4 (by unfold cFq; omega)).trans h44)
  refine ⟨_, e, h1, fun x y q1 q2 => by rw [zsI_ne (by omega), zsI_ne (by omega)]; exact h2 x y q1, fun g hg => ?_, fun s hs => by cases hs⟩
  cases hg
  exact ⟨rfl, by rw [zsI_ne (by omega), zsI_at], zsI_at _ _ _ _⟩
theorem zbo0 {ρ : Type} (o : Option ρ) : zbo 0 o = o := if_pos (Or.inl rfl)
theorem zbo1 {ρ : Type} (o : Option ρ) : zbo 1 o = o := if_pos (Or.inr rfl)
theorem c_counts {S : List (Nat × Nat)} {M0 M : zM} {t b o c : Nat} {st : List Nat} {out : List (Nat × Int32)} {tk : zTk} (hS : zShp S) (hR : pRf M.2.2) (ht : t = 43 ∨ t = 75) (h1 : M.2.2 = M0.2.2) (h2 : ∀ x y, ¬ cFq t b x y → M.1 x y = M0.1 x y) (h44 : M0.1 4 4 = nI tk.2.2.1) (h9 : M.1 3 9 = nI c) (hc : c ≤ 64) :
    (64 ≤ c → ∃ M', gX3_counts S 3 M = some (0, M') ∧ cSr M0 t b tk (.inl 2) 0 M') ∧ (¬ 64 ≤ c → gX3_counts S 3 M = some (1, zsI M 3 9 (nI (c + 1)))) := by
  have P := cP hS hR
  refine ⟨fun h => ?_, fun h => ?_⟩
  · have hn : ¬ c < 64 := by omega
    obtain ⟨M', e1, e2⟩ := cSr_f (f := 2) (tk := tk) hS hR h1 h2 ht h44
    have e1' : gX3_fails S 3 2 M = some (0, M') := e1
    refine ⟨M', ?_, e2⟩
    simp (disch := first | omega | simp only [qI2, qL2, qC2, qF2]) only [gX3_counts, ↓P, h9, li64, nI_ltI, if_neg hn, ↓zb2_of e1', zbo0]
  · have hn : c < 64 := by omega
    simp (disch := first | omega | simp only [qI2, qL2, qC2, qF2]) only [gX3_counts, ↓P, h9, li64, nI_ltI, if_pos hn, nI_1]
theorem c_hold {S : List (Nat × Nat)} {M : zM} {w : Nat} {k : Int32} (hS : zShp S) (hR : pRf M.2.2) (h7 : M.1 3 7 = nI w) (hw : w < 72) : gX3_hold S 3 k M = some (1, zsI (zsI M 42 w k) 3 7 (nI (w + 1))) := by
  have P := cP hS hR
  simp (disch := first | omega | simp only [qI2, qL2, qC2, qF2]) only [gX3_hold, ↓P, h7, zsI_ne, nI_1]
theorem c_telk {S : List (Nat × Nat)} {M : zM} {t kn : Nat} {k v : Int32} (hb : cFb S M.2.2 t) (hk : M.1 (t + 21) 6 = nI kn) (h : kn < 64) : gX3_tells S 3 k v M = some (1, zsI (zsI (zsI M (t + 21 + 2) kn k) (t + 21 + 4) kn v) (t + 21) 6 (nI (kn + 1))) := by
  obtain ⟨hS, hR, ht, h31⟩ := hb
  have hT := pTs_of hS hR t (Or.inr ht)
  have F := tG hT
  have gD : ∀ (ρ : Type) (M' : zM) (f : Nat → Option ρ), M'.2.2 = M.2.2 → zgR S M' 3 3 10 1 f = f t := fun ρ M' f h => zgR_of ((hS 3 (by decide)).trans rfl) h31 M' f h
  have ad := c_addk (S := S) (M := M) (u := t + 21) (kn := kn) (k := k) (v := v) (pLw_of hS hR (t + 21) (by omega)) hk h
  simp (disch := first | omega | simp only [qI2, qL2, qC2, qF2]) only [gX3_tells, ↓gD, ↓F, ↓bind_of ad]
