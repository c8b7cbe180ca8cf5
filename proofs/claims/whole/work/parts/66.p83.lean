/-! pure part 83: text: the model's end of a text -/
def m162 (M : zM) : zM := zsI (zsI M 306 26 (M.1 306 24)) 306 27 ((zsI M 306 26 (M.1 306 24)).1 306 25)
theorem m162_o {M : zM} {x y : Nat} (h : ¬ (x = 306 ∧ (y = 26 ∨ y = 27))) : (m162 M).1 x y = M.1 x y := by
  unfold m162
  rw [zsI_ne (by omega), zsI_ne (by omega)]
theorem m_162f {S : List (Nat × Nat)} {M : zM} (hS : pMs S M.2.2) (hd : ¬ M.1 306 24 = 0) : gX12_text_162 S 306 M = some (-1, m162 M) := by
  have c : ¬ (m162 M).1 306 24 = 0 := by rw [m162_o (by omega)]; exact hd
  have hS4 : pMs S (m162 M).2.2 := hS
  have c' : ¬ (zsI (zsI M 306 26 (M.1 306 24)) 306 27 ((zsI M 306 26 (M.1 306 24)).1 306 25)).1 306 24 = 0 := c
  simp (disch := first | omega | simp only [qI2, qL2, qC2, qF2]) only [gX12_text_162, ↓mH hS, if_neg c']
  rfl
theorem m_bg11 {S : List (Nat × Nat)} {R : Nat → Nat → Option Nat} (hS : pMs S R) : ∀ (k fu i : Nat) (M : zM), M.2.2 = R → i + k = 100 → k < fu → ∃ M' : zM, gX12_begins_11 S fu 306 (nI i) M = gX12_starts S 306 0 M' ∧ M'.2.2 = M.2.2 ∧ (∀ x y, ¬ (x = 313 ∧ y < 100) → M'.1 x y = M.1 x y) ∧ ∀ d, d < 100 → M'.1 313 d = (if i ≤ d then -1 else M.1 313 d) := by
  have li100' : (100 : Int32) = nI 100 := rfl
  have id0 : ∀ o : Option zM, (o.bind fun M1 => some M1) = o := fun o => by cases o <;> rfl
  intro k
  induction k with
  | zero =>
    intro fu i M hR h1 h2
    obtain ⟨fu, rfl⟩ : ∃ f, fu = f + 1 := ⟨fu - 1, by omega⟩
    have hSM : pMs S M.2.2 := hR.symm ▸ hS
    refine ⟨M, ?_, rfl, fun _ _ _ => rfl, fun d hd => ?_⟩
    · simp (disch := first | omega | simp only [qI2, qL2, qC2, qF2]) only [gX12_begins_11, li100', nI_leI, if_pos (show 100 ≤ i by omega), ↓mH hSM, id0]
    · rw [if_neg (by omega)]
  | succ k ih =>
    intro fu i M hR h1 h2
    obtain ⟨fu, rfl⟩ : ∃ f, fu = f + 1 := ⟨fu - 1, by omega⟩
    have hSM : pMs S M.2.2 := hR.symm ▸ hS
    have p : ∀ (ρ : Type) (v : Int32) (f : zM → Option ρ), zbI S M 313 (nI i) v f = f (zsI M 313 i v) := fun ρ v f => zbI_ok (n := 200) (pMg hS 8 313 100 200 (by decide)).2 (by omega) (by omega)
    obtain ⟨M', e1, e2, e3, e4⟩ := ih fu (i + 1) (zsI M 313 i (-1)) hR (by omega) (by omega)
    refine ⟨M', ?_, e2, fun x y q => (e3 x y q).trans (zsI_ne (by omega)), fun d hd => ?_⟩
    · simp (disch := first | omega | simp only [qI2, qL2, qC2, qF2]) only [gX12_begins_11, li100', nI_leI, if_neg (show ¬ 100 ≤ i by omega), ↓mH hSM, ↓p, nI_1]
      exact e1
    · rw [e4 d hd]
      by_cases c : i + 1 ≤ d
      · rw [if_pos c, if_pos (by omega)]
      · rw [if_neg c]
        by_cases c1 : d = i
        · rw [c1, zsI_at, if_pos (Nat.le_refl _)]
        · rw [if_neg (by omega), zsI_ne (by omega)]
theorem m_begins {S : List (Nat × Nat)} {M : zM} {E : zEn} (hS : pMs S M.2.2) (wE : wfE E) (hV : pME M.1 E) (h0 : eC E = 0 → ∀ d, d < 100 → eCl E d = none) : ∃ M' : zM, gX12_begins S 306 M = some M' ∧ M'.2.2 = M.2.2 ∧ pME M'.1 E ∧ pMk M'.1 0 E (K0 E) ∧ ∀ x y, ¬ (x = 313 ∧ y < 100) → ¬ mS 0 x y → M'.1 x y = M.1 x y := by
  have id0 : ∀ o : Option zM, (o.bind fun M1 => some M1) = o := fun o => by cases o <;> rfl
  have hC := hV.1.2.2.1
  have g2 : ∀ (ρ : Type) (f : Int32 → Option ρ), zaI S M 100 308 2 f = f (M.1 308 2) := fun ρ f => zaI_ok (i := 2) (pMg hS 3 308 100 14 (by decide)).2 (by omega) (by omega)
  by_cases c : eC E = 0
  · obtain ⟨M1, e1, e2, e3, e4⟩ := m_bg11 hS 100 zfu 0 M rfl rfl (by unfold zfu; omega)
    have hV1 : pME M1.1 E := by
      obtain ⟨a, b, c', d, e, f⟩ := hV
      refine ⟨?_, ?_, ?_, fun d' hd => ?_, ?_, ?_⟩
      · rw [e3 308 0 (by omega), e3 308 1 (by omega), e3 308 2 (by omega), e3 308 3 (by omega), e3 308 4 (by omega), e3 308 5 (by omega), e3 308 6 (by omega)]
        exact a
      · intro i hi
        rw [e3 309 i (by omega), e3 310 i (by omega), e3 311 i (by omega)]
        exact b i hi
      · intro i hi
        rw [e3 312 i (by omega)]
        exact c' i hi
      · rw [e4 d' hd, if_pos (Nat.zero_le _), h0 c d' hd]
        rfl
      · intro i hi
        rw [e3 314 i (by omega), e3 315 i (by omega), e3 316 i (by omega), e3 317 i (by omega)]
        exact e i hi
      · intro r hr
        obtain ⟨b0, k1, k2, k3, k4⟩ := f r hr
        exact ⟨b0, k1, (e3 318 r (by omega)).trans k2, (e3 319 r (by omega)).trans k3, lsM_cg (fun j _ _ => ⟨e3 320 j (by omega), e3 321 j (by omega)⟩) k4⟩
    have hS1 : pMs S M1.2.2 := e2.symm ▸ hS
    obtain ⟨M', f1, f2, f3⟩ := m_starts (s := 0) hS1 (by omega) wE hV1
    have f1' : gX12_starts S 306 0 M1 = some M' := f1
    refine ⟨M', ?_, f3.1.trans e2, pME_cg (fun a b k1 k2 => f3.2 a b (by unfold mS; omega)) hV1, f2, fun x y q1 q2 => (f3.2 x y q2).trans (e3 x y q1)⟩
    have e1' : gX12_begins_11 S zfu 306 0 M = some M' := e1.trans f1'
    simp (disch := first | omega | simp only [qI2, qL2, qC2, qF2]) only [gX12_begins, ↓mH hS, ↓g2, hC, c, if_pos (show nI 0 = (0 : Int32) from rfl), e1']
  · obtain ⟨M', f1, f2, f3⟩ := m_starts (s := 0) hS (by omega) wE hV
    have f1' : gX12_starts S 306 0 M = some M' := f1
    have nc : ¬ nI (eC E) = (0 : Int32) := fun z => c ((nI_eq (b := 0) (by have := wE.2.2.1; omega) (by decide)).1 z)
    refine ⟨M', ?_, f3.1, pME_cg (fun a b k1 k2 => f3.2 a b (by unfold mS; omega)) hV, f2, fun x y q1 q2 => f3.2 x y q2⟩
    simp (disch := first | omega | simp only [qI2, qL2, qC2, qF2]) only [gX12_begins, ↓mH hS, ↓g2, hC, if_neg nc, ↓bind_of f1']
theorem hfA_E {M : zM} {E : zEn} (wE : wfE E) (hD : mDr M.1 E) : pME (hfA M).1 E := by
  obtain ⟨⟨a1, a2, a3, a4, a5, a6, a7⟩, b, c, d, e, f⟩ := hD
  have hT6 := wE.1
  have hP12 := wE.2.1
  have hW5 := wE.2.2.2.1
  have hK := wE.2.2.2.2.2.1
  refine ⟨⟨(hfA_308 (by omega)).trans a1, (hfA_308 (by omega)).trans a2, (hfA_308 (by omega)).trans a3, (hfA_308 (by omega)).trans a4, (hfA_308 (by omega)).trans a5, (hfA_308 (by omega)).trans a6, (hfA_308 (by omega)).trans a7⟩, fun i hi => ⟨(hfA_309 (by omega)).trans (b i hi).1, (hfA_310 (by omega)).trans (b i hi).2.1, (hfA_311 (by omega)).trans (b i hi).2.2⟩, fun i hi => (hfA_312 (by omega)).trans (c i hi), fun i hi => (hfA_313 (by omega)).trans (d i hi), fun i hi => ⟨(hfA_314 (by omega)).trans (e i hi).1, (hfA_315 (by omega)).trans (e i hi).2.1, (hfA_316 (by omega)).trans (e i hi).2.2.1, (hfA_317 (by omega)).trans (e i hi).2.2.2⟩, fun r hr => ?_⟩
  obtain ⟨b0, k1, k2, k3, k4⟩ := f r hr
  exact ⟨b0, by omega, (hfA_318 (by omega)).trans k2, (hfA_319 (by omega)).trans k3, lsM_cg (fun j z1 z2 => ⟨hfA_320 (by omega), hfA_321 (by omega)⟩) k4⟩
def tQm (x y : Nat) : Prop := (x = 306 ∧ (y = 26 ∨ y = 27 ∨ y = 45 ∨ y = 46 ∨ y = 58 ∨ y = 59)) ∨ (308 ≤ x ∧ x ≤ 321) ∨ mS 0 x y
theorem m_162 {S : List (Nat × Nat)} {M : zM} {E : zEn} {ln : Int32} (hS : pMs S M.2.2) (h24 : M.1 306 24 = 0) (h25 : M.1 306 25 = -1) (h18 : M.1 306 18 = ln) (wE : wfE E) (hD : mDr M.1 E) (h0 : eC E = 0 → ∀ d, d < 100 → eCl E d = none) : ∃ M' : zM, gX12_text_162 S 306 M = some (ln, M') ∧ M'.2.2 = M.2.2 ∧ pME M'.1 E ∧ pMk M'.1 0 E (K0 E) ∧ (M'.1 306 26 = 0 ∧ M'.1 306 27 = -1 ∧ M'.1 306 58 = 0 ∧ M'.1 306 59 = -1 ∧ M'.1 306 45 = 0 ∧ M'.1 306 46 = 0) ∧ ∀ x y, ¬ tQm x y → M'.1 x y = M.1 x y := by
  have c : (m162 M).1 306 24 = 0 := by rw [m162_o (by omega)]; exact h24
  have hS4 : pMs S (m162 M).2.2 := hS
  have c' : (zsI (zsI M 306 26 (M.1 306 24)) 306 27 ((zsI M 306 26 (M.1 306 24)).1 306 25)).1 306 24 = 0 := c
  have hD4 : mDr (m162 M).1 E := mDr_cg (fun x y q => m162_o (by unfold mLv at q; omega)) hD
  obtain ⟨h1, h2, h3, h4, h5, h6, h7, h8, h9, h10, h11, h12, h13, h14⟩ := m_halves (S := S) (M := m162 M) hS4
  have hE := hfA_E wE hD4
  have hV : pME (zsI (zsI (zsI (zsI (hfA (m162 M)) 306 58 0) 306 59 (-1)) 306 45 0) 306 46 0).1 E := pME_cg (fun a b k1 k2 => by rw [zsI_ne (by omega), zsI_ne (by omega), zsI_ne (by omega), zsI_ne (by omega)]) hE
  have hSH : pMs S (zsI (zsI (zsI (zsI (hfA (m162 M)) 306 58 0) 306 59 (-1)) 306 45 0) 306 46 0).2.2 := hS
  obtain ⟨M', b1, b2, b3, b4, b5⟩ := m_begins hSH wE hV h0
  have hS' : pMs S M'.2.2 := b2.symm ▸ hSH
  have oo : ∀ x y, ¬ tQm x y → M'.1 x y = M.1 x y := fun x y q => by
    unfold tQm at q
    rw [b5 x y (by omega) (fun z => q (Or.inr (Or.inr z))), zsI_ne (by omega), zsI_ne (by omega), zsI_ne (by omega), zsI_ne (by omega), hfA_o (by omega), m162_o (by omega)]
  have e18 : M'.1 306 18 = ln := (oo 306 18 (by unfold tQm mS; omega)).trans h18
  refine ⟨M', ?_, b2, b3, b4, ⟨?_, ?_, ?_, ?_, ?_, ?_⟩, oo⟩
  · have b1' : gX12_begins S 306 (zsI (zsI (zsI (zsI (hfR (hfR (hfR (hfR (hfR (hfR (hfR (hfR (hfR (hfR (hfR (hfR (hfR (hfR (zsI (zsI M 306 26 (M.1 306 24)) 306 27 ((zsI M 306 26 (M.1 306 24)).1 306 25)) 308 7 0) 309 6 0) 310 6 0) 311 6 0) 312 12 0) 313 100 0) 314 5 0) 315 5 0) 316 5 0) 317 5 0) 318 3 0) 319 3 0) 320 64 0) 321 64 0) 306 58 0) 306 59 (-1)) 306 45 0) 306 46 0) = some M' := b1
    have qh : ∀ (M : zM) (q N : Nat), (hfR M q N 0).2.2 = M.2.2 := fun _ _ _ => rfl
    simp (disch := first | omega | simp only [qI2, qL2, qC2, qF2, qh]) only [gX12_text_162, ↓mH hS, c', if_true, h1, h2, h3, h4, h5, h6, h7, h8, h9, h10, h11, h12, h13, h14, Option.bind_some, b1', ↓mH hS', e18]
  · rw [b5 306 26 (by omega) (by unfold mS; omega), zsI_ne (by omega), zsI_ne (by omega), zsI_ne (by omega), zsI_ne (by omega), hfA_o (by omega)]
    unfold m162
    rw [zsI_ne (by omega), zsI_at]
    exact h24
  · rw [b5 306 27 (by omega) (by unfold mS; omega), zsI_ne (by omega), zsI_ne (by omega), zsI_ne (by omega), zsI_ne (by omega), hfA_o (by omega)]
    unfold m162
    rw [zsI_at, zsI_ne (by omega)]
    exact h25
  · rw [b5 306 58 (by omega) (by unfold mS; omega), zsI_ne (by omega), zsI_ne (by omega), zsI_ne (by omega), zsI_at]
  · rw [b5 306 59 (by omega) (by unfold mS; omega), zsI_ne (by omega), zsI_ne (by omega), zsI_at]
  · rw [b5 306 45 (by omega) (by unfold mS; omega), zsI_ne (by omega), zsI_at]
  · rw [b5 306 46 (by omega) (by unfold mS; omega), zsI_at]

