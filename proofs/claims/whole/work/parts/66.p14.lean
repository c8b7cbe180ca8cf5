/-! pure part 14: the model's formulas -/
theorem toI64 (x : Int32) : x.toInt64.toInt = x.toInt := Int32.toInt_toInt64 x
theorem lMin_ne (x : Int32) : x.toInt64 ≠ lMin := fun h => by
  have h1 := toI64 x
  rw [h] at h1
  have h2 : lMin.toInt = -9223372036854775808 := by decide
  have h3 := Int32.le_toInt x
  have h4 : (Int32.minValue).toInt = -2147483648 := by decide
  omega
theorem wop_ne {k : Nat} {x y v : Int64} (h : wop k x y = some v) : v ≠ lMin := fun h2 => by
  unfold wop at h
  split at h
  · cases h
  · split at h
    · rename_i h3
      cases h
      rw [h2] at h3
      exact absurd h3 (by decide)
    · cases h
theorem wst_ne {nm : Nat → Int64} {kv : Nat × Int32} {st st' : List Int64} (hn : ∀ j, nm j ≠ lMin) (hs : ∀ x ∈ st, x ≠ lMin) (h : wst nm kv st = some st') : ∀ x ∈ st', x ≠ lMin := by
  unfold wst at h
  by_cases k0 : kv.1 = 0
  · rw [if_pos k0] at h
    cases h
    intro x hx
    rcases List.mem_cons.mp hx with rfl | hx
    · exact lMin_ne _
    · exact hs x hx
  rw [if_neg k0] at h
  by_cases k1 : kv.1 = 1
  · rw [if_pos k1] at h
    cases h
    intro x hx
    rcases List.mem_cons.mp hx with rfl | hx
    · exact hn _
    · exact hs x hx
  rw [if_neg k1] at h
  by_cases k5 : kv.1 = 5
  · rw [if_pos k5] at h
    match st, hs, h with
    | [], hs, h => cases h
    | y :: r, hs, h =>
      cases h
      intro x hx
      rcases List.mem_cons.mp hx with rfl | hx
      · split <;> decide
      · exact hs x (List.mem_cons_of_mem _ hx)
  rw [if_neg k5] at h
  match st, hs, h with
  | [], hs, h => cases h
  | [y], hs, h => cases h
  | y :: z :: r, hs, h =>
    dsimp only at h
    cases hw : wop kv.1 z y with
    | none => rw [hw] at h; cases h
    | some v =>
      rw [hw] at h
      cases h
      intro x hx
      rcases List.mem_cons.mp hx with rfl | hx
      · exact wop_ne hw
      · exact hs x (List.mem_cons_of_mem _ (List.mem_cons_of_mem _ hx))
theorem wrun_ne {nm : Nat → Int64} (hn : ∀ j, nm j ≠ lMin) : ∀ (L : List (Nat × Int32)) (st st' : List Int64), (∀ x ∈ st, x ≠ lMin) → wrun nm L st = some st' → ∀ x ∈ st', x ≠ lMin
  | [], st, st', hs, h => by cases h; exact hs
  | kv :: L, st, st', hs, h => by
    unfold wrun at h
    cases hw : wst nm kv st with
    | none => rw [hw] at h; cases h
    | some s2 => rw [hw] at h; exact wrun_ne hn L s2 st' (wst_ne hn hs hw) h
theorem wst_dep {nm : Nat → Int64} {kv : Nat × Int32} {L : List (Nat × Int32)} {st st' : List Int64} (h : wst nm kv st = some st') : dep (kv :: L) st.length = dep L st'.length := by
  unfold wst at h
  show (if kv.1 = 0 ∨ kv.1 = 1 then dep L (st.length + 1) else if kv.1 = 5 then (if 1 ≤ st.length then dep L st.length else none) else if 2 ≤ st.length then dep L (st.length - 1) else none) = _
  by_cases k0 : kv.1 = 0
  · rw [if_pos k0] at h
    cases h
    rw [if_pos (Or.inl k0)]
    rfl
  rw [if_neg k0] at h
  by_cases k1 : kv.1 = 1
  · rw [if_pos k1] at h
    cases h
    rw [if_pos (Or.inr k1)]
    rfl
  rw [if_neg k1] at h
  rw [if_neg (show ¬ (kv.1 = 0 ∨ kv.1 = 1) by omega)]
  by_cases k5 : kv.1 = 5
  · rw [if_pos k5] at h
    rw [if_pos k5]
    match st, h with
    | [], h => cases h
    | y :: r, h =>
      cases h
      rw [if_pos (show 1 ≤ (y :: r).length by simp)]
      rfl
  rw [if_neg k5] at h
  rw [if_neg k5]
  match st, h with
  | [], h => cases h
  | [y], h => cases h
  | y :: z :: r, h =>
    dsimp only at h
    cases hw : wop kv.1 z y with
    | none => rw [hw] at h; cases h
    | some v =>
      rw [hw] at h
      cases h
      rw [if_pos (show 2 ≤ (y :: z :: r).length by simp)]
      rfl
theorem wrun_dep {nm : Nat → Int64} : ∀ (L : List (Nat × Int32)) (st st' : List Int64), wrun nm L st = some st' → dep L st.length = some st'.length
  | [], st, st', h => by cases h; rfl
  | kv :: L, st, st', h => by
    unfold wrun at h
    cases hw : wst nm kv st with
    | none => rw [hw] at h; cases h
    | some s2 => rw [hw] at h; rw [wst_dep hw]; exact wrun_dep L s2 st' h
theorem wst_some {nm : Nat → Int64} {kv : Nat × Int32} {st : List Int64} (k0 : kv.1 ≠ 0) (k1 : kv.1 ≠ 1) (k5 : kv.1 ≠ 5) {y x : Int64} {r : List Int64} (e : st = y :: x :: r) : wst nm kv st = (match wop kv.1 x y with | some v => some (v :: r) | none => none) := by
  subst e
  simp only [wst, if_neg k0, if_neg k1, if_neg k5]
  cases wop kv.1 x y <;> rfl
theorem e_goes12 {S : List (Nat × Nat)} {R : Nat → Nat → Option Nat} {I : Nat → Nat → Int32} {nm : Nat → Int64} {e r : Nat} (hS : pMs S R) (he : e ≤ 64) (hr : r < 3) (hTo : I 319 r = nI e) : ∀ (L : List (Nat × Int32)) (fu b : Nat) (st : List Int64) (M : zM), M.2.2 = R → (∀ a b, ¬ (a = 306 ∧ b = 32) → M.1 a b = I a b) → lsM (I 320) (I 321) b L → M.1 306 32 = nI st.length → stP (M.2.1 323) st → (∀ j, j < 7 → M.2.1 322 j = nm j) → b + L.length = e → dep L st.length ≠ none → st.length + L.length ≤ 64 → L.length < fu →
    ∃ M', gX12_goes_12 S fu 306 (nI r) (nI b) M = some (match wrun nm L st with | some _ => 1 | none => 0, M') ∧ M'.2.2 = R ∧ (∀ a b, ¬ (a = 306 ∧ b = 32) → M'.1 a b = I a b) ∧ (∀ st', wrun nm L st = some st' → stP (M'.2.1 323) st') := by
  intro L
  induction L with
  | nil =>
    intro fu b st M hR hI hL hn hst hnm hb hd hl hf
    obtain ⟨fu, rfl⟩ : ∃ f, fu = f + 1 := ⟨fu - 1, by omega⟩
    have hS' : pMs S M.2.2 := hR ▸ hS
    have g1 : M.1 319 r = nI e := by rw [hI _ _ (by omega)]; exact hTo
    simp only [List.length_nil, Nat.add_zero] at hb
    subst hb
    refine ⟨M, ?_, hR, hI, fun st' h => ?_⟩
    · simp (disch := omega) only [gX12_goes_12, zgR, mF hS', mG hS', g1, nI_leI, Nat.le_refl, if_true]
      rfl
    · cases h; exact hst
  | cons kv L ih =>
    intro fu b st M hR hI hL hn hst hnm hb hd hl hf
    obtain ⟨fu, rfl⟩ : ∃ f, fu = f + 1 := ⟨fu - 1, by omega⟩
    obtain ⟨l1, l2, l3, l4, l5, l6⟩ := hL
    simp only [List.length_cons] at hb hl hf
    have hS' : pMs S M.2.2 := hR ▸ hS
    have g1 : M.1 319 r = nI e := by rw [hI _ _ (by omega)]; exact hTo
    have g2 : M.1 320 b = I 320 b := hI _ _ (by omega)
    have g3 : M.1 321 b = I 321 b := hI _ _ (by omega)
    have hleb : ¬ e ≤ b := by omega
    have push : ∀ v : Int64, (kv.1 = 0 ∨ kv.1 = 1) → wst nm kv st = some (v :: st) → ∃ M', gX12_goes_12 S fu 306 (nI r) (nI (b + 1)) (zsI (zsL M 323 st.length v) 306 32 (nI (st.length + 1))) = some (match wrun nm (kv :: L) st with | some _ => 1 | none => 0, M') ∧ M'.2.2 = R ∧ (∀ a b, ¬ (a = 306 ∧ b = 32) → M'.1 a b = I a b) ∧ (∀ st', wrun nm (kv :: L) st = some st' → stP (M'.2.1 323) st') := by
      intro v hk hw
      have hd2 : dep L (v :: st).length ≠ none := by rw [← wst_dep (L := L) hw]; exact hd
      have hwr : wrun nm (kv :: L) st = wrun nm L (v :: st) := by simp only [wrun, hw]
      rw [hwr]
      exact ih fu (b + 1) (v :: st) (zsI (zsL M 323 st.length v) 306 32 (nI (st.length + 1))) hR (fun a c h => by rw [zsI_ne (by omega), zsL_i]; exact hI a c h) l6 (zsI_at _ _ _ _) ⟨zsL_at _ _ _ _, stP_set hst (Nat.le_refl _) (fun j hj => zsL_ne (Or.inr (by omega)))⟩ (fun j hj => (zsL_ne (by omega)).trans (hnm j hj)) (by omega) hd2 (by simp only [List.length_cons]; omega) (by omega)
    by_cases k0 : kv.1 = 0
    · have s0 : I 320 b = nI 0 := by rw [l1, if_pos k0]; rfl
      have v0 : I 321 b = kv.2 := by rw [l2, if_pos (Or.inl k0)]
      obtain ⟨M', e1, e2⟩ := push kv.2.toInt64 (Or.inl k0) (by simp only [wst, if_pos k0])
      refine ⟨M', ?_, e2⟩
      simp (disch := omega) only [gX12_goes_12, zgR, zgI, zpI, mF hS', mG hS', qL2, qL0, qI2, g1, g2, g3, s0, v0, hn, nI_leI, li2, li0, nI_eq, if_neg hleb, if_neg, if_true, nI_1, Nat.reduceEqDiff, if_false]
      exact e1
    by_cases k1 : kv.1 = 1
    · have s0 : I 320 b = nI 1 := by rw [l1, if_neg k0, if_pos k1]; rfl
      obtain ⟨j, hj, hj2⟩ := l5 k1
      have v0 : I 321 b = nI j := by rw [l2, if_pos (Or.inr k1)]; exact hj2
      have hnj := hnm j hj
      obtain ⟨M', e1, e2⟩ := push (nm j) (Or.inr k1) (by simp only [wst, if_neg k0, if_pos k1, hj2, nI_clamp (show j < 2 ^ 31 by omega)])
      refine ⟨M', ?_, e2⟩
      simp (disch := omega) only [gX12_goes_12, zgR, zgI, zpI, mF hS', mG hS', qL2, qL0, qI2, g1, g2, g3, s0, v0, hn, hnj, nI_leI, li2, li0, nI_eq, if_neg hleb, if_neg, if_true, nI_1, Nat.reduceEqDiff, if_false]
      exact e1
    have s0 : I 320 b = nI 2 := by rw [l1, if_neg k0, if_neg k1]; rfl
    have v0 : I 321 b = nI (cdM kv.1) := by rw [l2, if_neg (by omega)]
    have dd : dep (kv :: L) st.length = (if kv.1 = 5 then (if 1 ≤ st.length then dep L st.length else none) else if 2 ≤ st.length then dep L (st.length - 1) else none) := by
      show (if kv.1 = 0 ∨ kv.1 = 1 then _ else _) = _
      rw [if_neg (by omega)]
    rw [dd] at hd
    have head : ∀ (M2 : zM) (v : Int32), gX12_works S 306 (nI (cdM kv.1)) M = some (v, M2) → gX12_goes_12 S (fu + 1) 306 (nI r) (nI b) M = (if v = 0 then some (0, M2) else gX12_goes_12 S fu 306 (nI r) (nI (b + 1)) M2) := by
      intro M2 v hv
      simp (disch := omega) only [gX12_goes_12, zgR, zrc, zb2, mF hS', mG hS', g1, g2, g3, s0, v0, hv, nI_leI, li2, if_neg hleb, if_true, nI_1, Option.bind_some]
    by_cases k5 : kv.1 = 5
    · rw [if_pos k5] at hd
      match st, hst, hl, hn, hd with
      | [], hst, hl, hn, hd => simp at hd
      | y :: q, hst, hl, hn, hd =>
        simp only [List.length_cons] at hl hn hd
        have hw := e_worksN (M := M) (n := q.length) hS' hn (by omega) hst.1
        rw [← k5] at hw
        obtain ⟨M', e1, e2⟩ := ih fu (b + 1) ((if lg_cmp y 0 = 0 then 1 else 0) :: q) (zsL M 323 q.length (if lg_cmp y 0 = 0 then 1 else 0)) hR (fun a c h => by rw [zsL_i]; exact hI a c h) l6 (by rw [zsL_i]; exact hn) ⟨zsL_at _ _ _ _, stP_set hst.2 (Nat.le_refl _) (fun j hj => zsL_ne (Or.inr (by omega)))⟩ (fun j hj => (zsL_ne (by omega)).trans (hnm j hj)) (by omega) (by rw [if_pos (by omega)] at hd; exact hd) (by simp only [List.length_cons]; omega) (by omega)
        have hwr : wrun nm (kv :: L) (y :: q) = wrun nm L ((if lg_cmp y 0 = 0 then 1 else 0) :: q) := by simp only [wrun, wst, if_neg k0, if_neg k1, if_pos k5]
        rw [hwr]
        refine ⟨M', ?_, e2⟩
        rw [head _ _ hw, if_neg (by decide)]
        exact e1
    rw [if_neg k5] at hd
    match st, hst, hl, hn, hd with
    | [], hst, hl, hn, hd => simp at hd
    | [y], hst, hl, hn, hd => simp at hd
    | y :: x :: q, hst, hl, hn, hd =>
      simp only [List.length_cons] at hl hn hd
      obtain ⟨M2, w1, w2, w3, w4, w5⟩ := e_works (M := M) (k := kv.1) (n := q.length) (x := x) (y := y) hS' hn (by omega) hst.2.1 hst.1 (by omega) l3 k5
      have hws := wst_some (nm := nm) k0 k1 k5 (show y :: x :: q = y :: x :: q from rfl)
      cases hw : wop kv.1 x y with
      | none =>
        rw [hw] at w1 hws
        have hwr : wrun nm (kv :: L) (y :: x :: q) = none := by simp only [wrun, hws]
        rw [hwr]
        refine ⟨M2, ?_, w2.trans hR, fun a c h => by rw [w4 a c h]; exact hI a c h, fun st' h => by cases h⟩
        rw [head _ _ w1, if_pos rfl]
      | some v =>
        rw [hw] at w1 hws
        obtain ⟨x1, x2, x3⟩ := w5 v hw
        have hwr : wrun nm (kv :: L) (y :: x :: q) = wrun nm L (v :: q) := by simp only [wrun, hws]
        rw [hwr]
        obtain ⟨M', e1, e2⟩ := ih fu (b + 1) (v :: q) M2 (w2.trans hR) (fun a c h => by rw [w4 a c h]; exact hI a c h) l6 x1 ⟨x2, stP_set hst.2.2 (Nat.le_refl _) (fun j hj => x3 j hj)⟩ (fun j hj => by rw [w3]; exact hnm j hj) (by omega) (by rw [if_pos (by omega)] at hd; exact hd) (by simp only [List.length_cons]; omega) (by omega)
        refine ⟨M', ?_, e2⟩
        exact (head _ _ w1).trans ((if_neg (show ¬ (1 : Int32) = 0 by decide)).trans e1)
def pRuM (I : Nat → Nat → Int32) (r : Nat) (L : List (Nat × Int32)) : Prop := ∃ b, b + L.length ≤ 64 ∧ I 318 r = nI b ∧ I 319 r = nI (b + L.length) ∧ lsM (I 320) (I 321) b L
theorem e_goes {S : List (Nat × Nat)} {M : zM} {r : Nat} {L : List (Nat × Int32)} {nm : Nat → Int64} (hS : pMs S M.2.2) (hr : r < 3) (h : pRuM M.1 r L) (hn : ∀ j, j < 7 → M.2.1 322 j = nm j) (hd : dep L 0 = some 1) :
    ∃ M', gX12_goes S 306 (nI r) M = some (match wrun nm L [] with | some _ => 1 | none => 0, M') ∧ M'.2.2 = M.2.2 ∧ (∀ a b, ¬ (a = 306 ∧ b = 32) → M'.1 a b = M.1 a b) ∧ (∀ x, wrun nm L [] = some x → x = [wfin (some x)] ∧ M'.2.1 323 0 = wfin (some x)) := by
  obtain ⟨b, hb, h1, h2, h3⟩ := h
  have hl : L.length ≤ 64 := by omega
  obtain ⟨M', e1, e2, e3, e4⟩ := e_goes12 (R := M.2.2) (I := M.1) (nm := nm) (e := b + L.length) (r := r) hS hb hr h2 L zfu b [] (zsI M 306 32 0) rfl (fun a c hh => zsI_ne (by omega)) h3 (zsI_at _ _ _ _) trivial hn rfl (by rw [show ([] : List Int64).length = 0 from rfl, hd]; exact fun h => by cases h) (by simp; omega) (by unfold zfu; omega)
  have hb' : (zsI M 306 32 0).1 318 r = nI b := (zsI_ne (by omega)).trans h1
  refine ⟨M', ?_, e2, e3, fun x hx => ?_⟩
  · simp (disch := omega) only [gX12_goes, zgR, zpI, mF hS, mG hS, qI2, hb', if_true]
    exact e1
  · have hx1 := wrun_dep L [] x hx
    rw [show ([] : List Int64).length = 0 from rfl, hd] at hx1
    have hx2 : x.length = 1 := (Option.some.inj hx1).symm
    match x, hx2 with
    | [z], _ => exact ⟨rfl, (e4 [z] hx).1⟩
theorem e_hasLaw {S : List (Nat × Nat)} {M : zM} {r : Nat} {L : List (Nat × Int32)} (hS : pMs S M.2.2) (hr : r < 3) (h : pRuM M.1 r L) : gX12_hasLaw S 306 (nI r) M = some (if L = [] then 0 else 1) := by
  obtain ⟨b, hb, h1, h2, h3⟩ := h
  simp (disch := omega) only [gX12_hasLaw, zgR, mF hS, mG hS, h1, h2, nI_leI, if_true]
  cases L with
  | nil => rw [if_pos (show b + ([] : List (Nat × Int32)).length ≤ b by simp), if_pos rfl]
  | cons kv L =>
    simp only [List.length_cons]
    rw [if_neg (by omega), if_neg (by simp)]
theorem e_within {S : List (Nat × Nat)} {M : zM} {r : Nat} {E : zEn} {nm : Nat → Int64} {lo hi wo : Int32} (hS : pMs S M.2.2) (hr : r < 3) (h : pRuM M.1 r (eRu E r)) (hE : wfE E) (hn : ∀ j, j < 7 → M.2.1 322 j = nm j) (hne : ∀ j, nm j ≠ lMin) :
    ∃ M', gX12_within S 306 (nI r) lo hi wo M = some (bnd (wS E nm r) lo hi wo, M') ∧ M'.2.2 = M.2.2 ∧ (∀ a b, ¬ (a = 306 ∧ b = 32) → M'.1 a b = M.1 a b) := by
  by_cases h0 : eRu E r = []
  · refine ⟨M, ?_, rfl, fun _ _ _ => rfl⟩
    have hw : wS E nm r = lMin := if_pos h0
    simp only [gX12_within, zrc, mF hS, e_hasLaw hS hr h, h0, if_true, Option.bind_some, hw]
    rfl
  · obtain ⟨M', e1, e2, e3, e4⟩ := e_goes hS hr h hn (hE.2.2.2.2.2.2.2.2.2.2.2.2 r hr h0)
    have hS' : pMs S M'.2.2 := e2 ▸ hS
    refine ⟨M', ?_, e2, e3⟩
    have hw : wS E nm r = wfin (wrun nm (eRu E r) []) := if_neg h0
    simp only [gX12_within, zrc, zb2, mF hS, e_hasLaw hS hr h, if_neg h0, e1, if_true, Option.bind_some]
    rw [if_neg (by decide)]
    cases hx : wrun nm (eRu E r) [] with
    | none =>
      rw [if_pos rfl, hw, hx]
      rfl
    | some x =>
      obtain ⟨x1, x2⟩ := e4 x hx
      have hz := wrun_ne hne _ [] x (fun _ h => by cases h) hx (wfin (some x)) (by rw [x1]; simp [wfin])
      rw [if_neg (show ¬ (1 : Int32) = 0 by decide), hw, hx]
      simp (disch := omega) only [zgR, mF hS', li0, mG hS', x2, if_true]
      unfold bnd
      rw [if_neg (fun h : lg_cmp (wfin (some x)) (-9223372036854775808) = 0 => hz ((lg_cmp_eq _ _).mp h))]
