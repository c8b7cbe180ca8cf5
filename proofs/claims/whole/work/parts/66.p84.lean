/-! pure part 84: text: the model's begin of a text -/
theorem m_t47 {S : List (Nat × Nat)} {R : Nat → Nat → Option Nat} (hS : pMs S R) : ∀ (k fu i : Nat) (M : zM), M.2.2 = R → i + k = 7 → k < fu → ∃ M' : zM, gX12_text_47 S fu 306 (nI i) M = gX12_text_68 S zfu 306 (nI 100) M' ∧ M'.2.2 = M.2.2 ∧ (∀ x y, ¬ (x = 308 ∧ 7 + i ≤ y) → M'.1 x y = M.1 x y) ∧ ∀ j, i ≤ j → j < 7 → M'.1 308 (7 + j) = 0 := by
  have l : (7 : Int32) = nI 7 := rfl
  have l100 : (100 : Int32) = nI 100 := rfl
  intro k
  induction k with
  | zero =>
    intro fu i M hR h1 h2
    obtain ⟨fu, rfl⟩ : ∃ f, fu = f + 1 := ⟨fu - 1, by omega⟩
    refine ⟨M, ?_, rfl, fun _ _ _ => rfl, fun j _ _ => by omega⟩
    simp (disch := first | omega | simp only [qI2, qL2, qC2, qF2]) only [gX12_text_47, l, l100, nI_leI, if_pos (show 7 ≤ i by omega)]
  | succ k ih =>
    intro fu i M hR h1 h2
    obtain ⟨fu, rfl⟩ : ∃ f, fu = f + 1 := ⟨fu - 1, by omega⟩
    have hSM : pMs S M.2.2 := hR.symm ▸ hS
    have rd : gX12_reads S 306 (nI i) 0 M = some (zsI M 308 (7 + i) 0) := m_rds hSM rfl (by omega)
    obtain ⟨M', e1, e2, e3, e4⟩ := ih fu (i + 1) (zsI M 308 (7 + i) 0) hR (by omega) (by omega)
    refine ⟨M', ?_, e2, fun x y q => (e3 x y (by omega)).trans (zsI_ne (by omega)), fun j z1 z2 => ?_⟩
    · simp (disch := first | omega | simp only [qI2, qL2, qC2, qF2]) only [gX12_text_47, l, nI_leI, if_neg (show ¬ 7 ≤ i by omega), ↓mH hSM, ↓bind_of rd, nI_1]
      exact e1
    · by_cases c : j = i
      · rw [c, e3 308 (7 + i) (by omega), zsI_at]
      · exact e4 j (by omega) z2
theorem m_t68 {S : List (Nat × Nat)} {R : Nat → Nat → Option Nat} (hS : pMs S R) : ∀ (k fu i : Nat) (M : zM), M.2.2 = R → i + k = 200 → k < fu → ∃ M' : zM, gX12_text_68 S fu 306 (nI i) M = gX12_text_90 S zfu 306 (nI 3) M' ∧ M'.2.2 = M.2.2 ∧ (∀ x y, ¬ (x = 313 ∧ i ≤ y) → M'.1 x y = M.1 x y) ∧ ∀ j, i ≤ j → j < 200 → M'.1 313 j = -1 := by
  have l : (200 : Int32) = nI 200 := rfl
  have l3 : (3 : Int32) = nI 3 := rfl
  intro k
  induction k with
  | zero =>
    intro fu i M hR h1 h2
    obtain ⟨fu, rfl⟩ : ∃ f, fu = f + 1 := ⟨fu - 1, by omega⟩
    refine ⟨M, ?_, rfl, fun _ _ _ => rfl, fun j _ _ => by omega⟩
    simp (disch := first | omega | simp only [qI2, qL2, qC2, qF2]) only [gX12_text_68, l, l3, nI_leI, if_pos (show 200 ≤ i by omega)]
  | succ k ih =>
    intro fu i M hR h1 h2
    obtain ⟨fu, rfl⟩ : ∃ f, fu = f + 1 := ⟨fu - 1, by omega⟩
    have hSM : pMs S M.2.2 := hR.symm ▸ hS
    have p : ∀ (ρ : Type) (v : Int32) (f : zM → Option ρ), zbI S M 313 (nI i) v f = f (zsI M 313 i v) := fun ρ v f => zbI_ok (n := 200) (pMg hS 8 313 100 200 (by decide)).2 (by omega) (by omega)
    obtain ⟨M', e1, e2, e3, e4⟩ := ih fu (i + 1) (zsI M 313 i (-1)) hR (by omega) (by omega)
    refine ⟨M', ?_, e2, fun x y q => (e3 x y (by omega)).trans (zsI_ne (by omega)), fun j z1 z2 => ?_⟩
    · simp (disch := first | omega | simp only [qI2, qL2, qC2, qF2]) only [gX12_text_68, l, nI_leI, if_neg (show ¬ 200 ≤ i by omega), ↓mH hSM, ↓p, nI_1]
      exact e1
    · by_cases c : j = i
      · rw [c, e3 313 i (by omega), zsI_at]
      · exact e4 j (by omega) z2
/-- what text_90 goes on with -/
def t90 (S : List (Nat × Nat)) (M : zM) : Option (Int32 × zM) := (gX12_token S 306 (zsI (zsI (zsI (zsI M 306 17 0) 306 18 0) 306 28 0) 306 29 0)).bind (fun M5 => gX12_text_140 S zfu 306 M5)
theorem m_t90 {S : List (Nat × Nat)} {R : Nat → Nat → Option Nat} (hS : pMs S R) : ∀ (k fu i : Nat) (M : zM), M.2.2 = R → i + k = 6 → k < fu → ∃ M' : zM, gX12_text_90 S fu 306 (nI i) M = t90 S M' ∧ M'.2.2 = M.2.2 ∧ (∀ x y, ¬ ((x = 318 ∨ x = 319) ∧ i ≤ y) → M'.1 x y = M.1 x y) ∧ ∀ j, i ≤ j → j < 6 → M'.1 318 j = 0 ∧ M'.1 319 j = 0 := by
  have l : (6 : Int32) = nI 6 := rfl
  intro k
  induction k with
  | zero =>
    intro fu i M hR h1 h2
    obtain ⟨fu, rfl⟩ : ∃ f, fu = f + 1 := ⟨fu - 1, by omega⟩
    have hSM : pMs S M.2.2 := hR.symm ▸ hS
    refine ⟨M, ?_, rfl, fun _ _ _ => rfl, fun j _ _ => by omega⟩
    unfold t90
    simp (disch := first | omega | simp only [qI2, qL2, qC2, qF2]) only [gX12_text_90, l, nI_leI, if_pos (show 6 ≤ i by omega), ↓mH hSM]
  | succ k ih =>
    intro fu i M hR h1 h2
    obtain ⟨fu, rfl⟩ : ∃ f, fu = f + 1 := ⟨fu - 1, by omega⟩
    have hSM : pMs S M.2.2 := hR.symm ▸ hS
    have p : ∀ (ρ : Type) (v : Int32) (f : zM → Option ρ), zbI S M 318 (nI i) v f = f (zsI M 318 i v) := fun ρ v f => zbI_ok (n := 6) (pMg hS 13 318 100 6 (by decide)).2 (by omega) (by omega)
    have p2 : ∀ (ρ : Type) (M : zM) (v : Int32) (f : zM → Option ρ), zbI S M 319 (nI i) v f = f (zsI M 319 i v) := fun ρ M v f => zbI_ok (n := 6) (pMg hS 14 319 100 6 (by decide)).2 (by omega) (by omega)
    obtain ⟨M', e1, e2, e3, e4⟩ := ih fu (i + 1) (zsI (zsI M 318 i 0) 319 i 0) hR (by omega) (by omega)
    refine ⟨M', ?_, e2, fun x y q => by rw [e3 x y (by omega), zsI_ne (by omega), zsI_ne (by omega)], fun j z1 z2 => ?_⟩
    · simp (disch := first | omega | simp only [qI2, qL2, qC2, qF2]) only [gX12_text_90, l, nI_leI, if_neg (show ¬ 6 ≤ i by omega), ↓mH hSM, ↓p, ↓p2, nI_1]
      exact e1
    · by_cases c : j = i
      · rw [c, e3 318 i (by omega), e3 319 i (by omega), zsI_at, zsI_ne (by omega), zsI_at]
        exact ⟨rfl, rfl⟩
      · exact e4 j (by omega) z2
/-- the whole road of the model up to the end of a text -/
theorem m_textT {S : List (Nat × Nat)} {M : zM} {T : Nat → Nat} {n tp : Nat} {r : (Nat × Nat) ⊕ (zEn × Nat)} (hS : pMs S M.2.2) (h2 : M.1 306 2 = nI tp) (hn : n ≤ tp) (h7 : tp ≤ 700) (hT : ∀ j, j < n → M.1 307 j = nI (T j) ∧ T j < 256) (hr : readS T n (n + 1) (tokS T n 0) E00 false false 0 = some r) :
    ∃ M' : zM, gX12_text S 306 (nI n) M = gX12_text_162 S 306 M' ∧ M'.2.2 = M.2.2 ∧ (∀ x y, ¬ mPq x y → ¬ (x = 306 ∧ (y = 0 ∨ y = 2 ∨ y = 19)) → M'.1 x y = M.1 x y) ∧ M'.1 306 2 = 0 ∧ (∀ f p, r = .inl (f, p) → (1 ≤ f ∧ f ≤ 4) ∧ M'.1 306 24 = nI f ∧ M'.1 306 25 = nI p) ∧ (∀ E' ln', r = .inr (E', ln') → wfE E' ∧ mDr M'.1 E' ∧ M'.1 306 24 = 0 ∧ M'.1 306 25 = -1 ∧ M'.1 306 18 = nI ln') := by
  have hn7 : n ≤ 700 := by omega
  have go : gX12_text S 306 (nI n) M = gX12_text_47 S zfu 306 (nI 0) (zsI (zsI (zsI (zsI (zsI (zsI M 306 0 0) 306 19 (nI n)) 306 2 0) 306 20 0) 306 24 0) 306 25 (-1)) := by
    have h2' : (zsI M 306 0 0).1 306 2 = nI tp := (zsI_ne (by omega)).trans h2
    simp (disch := first | omega | simp only [qI2, qL2, qC2, qF2]) only [gX12_text, ↓mH hS, if_neg (nI_pos (n := n) (by omega)), h2', nI_leI, if_pos hn]
    rfl
  obtain ⟨Ma, a1, a2, a3, a4⟩ := m_t47 hS 7 zfu 0 (zsI (zsI (zsI (zsI (zsI (zsI M 306 0 0) 306 19 (nI n)) 306 2 0) 306 20 0) 306 24 0) 306 25 (-1)) rfl rfl (by unfold zfu; omega)
  obtain ⟨Mb, b1, b2, b3, b4⟩ := m_t68 hS 100 zfu 100 Ma a2 rfl (by unfold zfu; omega)
  obtain ⟨Mc, c1, c2, c3, c4⟩ := m_t90 hS 3 zfu 3 Mb (b2.trans a2) rfl (by unfold zfu; omega)
  have rc : Mc.2.2 = M.2.2 := c2.trans (b2.trans a2)
  have hSc : pMs S Mc.2.2 := rc.symm ▸ hS
  have fc : ∀ x y, ¬ (x = 308 ∧ 7 ≤ y) → ¬ (x = 313 ∧ 100 ≤ y) → ¬ ((x = 318 ∨ x = 319) ∧ 3 ≤ y) → Mc.1 x y = (zsI (zsI (zsI (zsI (zsI (zsI M 306 0 0) 306 19 (nI n)) 306 2 0) 306 20 0) 306 24 0) 306 25 (-1)).1 x y := fun x y q1 q2 q3 => (c3 x y q3).trans ((b3 x y q2).trans (a3 x y (by omega)))
  have u : ∀ y, Mc.1 306 y = (zsI (zsI (zsI (zsI (zsI (zsI M 306 0 0) 306 19 (nI n)) 306 2 0) 306 20 0) 306 24 0) 306 25 (-1)).1 306 y := fun y => fc 306 y (by omega) (by omega) (by omega)
  have hx : mTx S (zsI (zsI (zsI (zsI Mc 306 17 0) 306 18 0) 306 28 0) 306 29 0).2.2 (zsI (zsI (zsI (zsI Mc 306 17 0) 306 18 0) 306 28 0) 306 29 0).1 T n := by
    refine ⟨hSc, ⟨?_, ?_⟩, hn7, fun j hj => ⟨?_, (hT j hj).2⟩⟩
    · rw [zsI_ne (by omega), zsI_ne (by omega), zsI_ne (by omega), zsI_ne (by omega), u, zsI_ne (by omega), zsI_ne (by omega), zsI_ne (by omega), zsI_ne (by omega), zsI_at]
    · rw [zsI_ne (by omega), zsI_ne (by omega), zsI_ne (by omega), zsI_ne (by omega), u, zsI_at]
    · rw [zsI_ne (by omega), zsI_ne (by omega), zsI_ne (by omega), zsI_ne (by omega), fc 307 j (by omega) (by omega) (by omega), zsI_ne (by omega), zsI_ne (by omega), zsI_ne (by omega), zsI_ne (by omega), zsI_ne (by omega), zsI_ne (by omega)]
      exact (hT j hj).1
  have h20 : (zsI (zsI (zsI (zsI Mc 306 17 0) 306 18 0) 306 28 0) 306 29 0).1 306 20 = nI 0 := by
    rw [zsI_ne (by omega), zsI_ne (by omega), zsI_ne (by omega), zsI_ne (by omega), u, zsI_ne (by omega), zsI_ne (by omega), zsI_at]
    rfl
  obtain ⟨M5, e1, e2, e3, e4⟩ := m_token hx (Nat.zero_le n) h20
  have o5 : ∀ x y, ¬ qTk x y → ¬ (x = 306 ∧ (y = 17 ∨ y = 18 ∨ y = 28 ∨ y = 29)) → M5.1 x y = Mc.1 x y := fun x y q1 q2 => by
    rw [e3 x y q1, zsI_ne (by omega), zsI_ne (by omega), zsI_ne (by omega), zsI_ne (by omega)]
  have z308 : ∀ j, j < 7 → M5.1 308 (7 + j) = 0 := fun j hj => by
    rw [o5 _ _ (by unfold qTk; omega) (by omega), c3 _ _ (by omega), b3 _ _ (by omega)]
    exact a4 j (Nat.zero_le _) hj
  have pp : mPp S M5 T n (tokS T n 0) E00 false false 0 := by
    refine ⟨⟨e2.symm ▸ mTx_cg (fun x y q => e3 x y (by unfold qTk; omega)) hx, e4⟩, ⟨?_, ?_, ?_, ?_, ?_⟩, ⟨⟨z308 0 (by omega), z308 1 (by omega), z308 2 (by omega), z308 3 (by omega), z308 4 (by omega), z308 5 (by omega), z308 6 (by omega)⟩, fun i hi => absurd hi (Nat.not_lt_zero _), fun i hi => absurd hi (Nat.not_lt_zero _), fun d hd => ?_, fun i hi => absurd hi (Nat.not_lt_zero _), fun r hr => ⟨0, Nat.le_refl _, ?_, ?_, trivial⟩⟩, ⟨fun _ => false, ?_, rfl, rfl, fun k hk => ⟨fun q => absurd q Bool.false_ne_true, fun q => absurd rfl q⟩⟩⟩
    · rw [o5 _ _ (by unfold qTk; omega) (by omega), u, zsI_ne (by omega), zsI_at]
    · rw [o5 _ _ (by unfold qTk; omega) (by omega), u, zsI_at]
    · rw [e3 _ _ (by unfold qTk; omega), zsI_ne (by omega), zsI_at]
    · rw [e3 _ _ (by unfold qTk; omega), zsI_at]
      rfl
    · rw [e3 _ _ (by unfold qTk; omega), zsI_ne (by omega), zsI_ne (by omega), zsI_at]
      rfl
    · rw [o5 _ _ (by unfold qTk; omega) (by omega), c3 _ _ (by omega)]
      exact b4 (100 + d) (by omega) (by omega)
    · rw [o5 _ _ (by unfold qTk; omega) (by omega)]
      exact (c4 (3 + r) (by omega) (by omega)).1
    · rw [o5 _ _ (by unfold qTk; omega) (by omega)]
      exact (c4 (3 + r) (by omega) (by omega)).2
    · rw [e3 _ _ (by unfold qTk; omega), zsI_ne (by omega), zsI_ne (by omega), zsI_ne (by omega), zsI_at]
      rfl
  obtain ⟨M', d1, d2, d3, d4, d5⟩ := m_t140 hn7 (n + 1) zfu M5 (tokS T n 0) E00 false false 0 r pp (tokS_ok (Nat.zero_le _) hn7) wf_00 (by unfold zfu; omega) hr
  have t9 : t90 S Mc = gX12_text_162 S 306 M' := by
    unfold t90
    rw [e1]
    exact d1
  refine ⟨M', go.trans (a1.trans (b1.trans (c1.trans t9))), d2.trans (e2.trans rc), fun x y q1 q2 => ?_, ?_, d4, d5⟩
  · rw [d3 x y q1]
    unfold mPq at q1
    rw [o5 x y (by unfold qTk; omega) (by omega), fc x y (by omega) (by omega) (by omega), zsI_ne (by omega), zsI_ne (by omega), zsI_ne (by omega), zsI_ne (by omega), zsI_ne (by omega), zsI_ne (by omega)]
  · rw [d3 306 2 (by unfold mPq; omega), o5 306 2 (by unfold qTk; omega) (by omega), u, zsI_ne (by omega), zsI_ne (by omega), zsI_ne (by omega), zsI_at]

