/-! pure part 34: steps that can be undone -/
def addS (st : zStp) (K : zKa) : zStp := if st.1 < 20 then (st.1 + 1, (fun j => if j = st.1 then kLs K else st.2.1 j), (fun j => if j = st.1 then kAp K else st.2.2 j)) else (20, (fun j => if j = 19 then kLs K else st.2.1 (j + 1)), (fun j => if j = 19 then kAp K else st.2.2 (j + 1)))
theorem li13' : (13 : Int32) = nI 13 := rfl
theorem li247 : (247 : Int32) = nI 247 := rfl
theorem c_add51 {S : List (Nat × Nat)} {R : Nat → Nat → Option Nat} {I : Nat → Nat → Int32} {n : Nat} (hS : zShp S) (hR : pRf R) (hn : n < 20) (h1 : I 182 1 = nI n) : ∀ (k fu i : Nat) (M : zM), M.2.2 = R → (∀ a b, ¬ (a = 184) → M.1 a b = I a b) → i + k = 12 → k < fu →
    ∃ M', gX8_add_51 S fu 182 107 (nI i) M = some M' ∧ M'.2.2 = R ∧ (∀ a b, ¬ (a = 184 ∨ (a = 182 ∧ b = 1)) → M'.1 a b = I a b) ∧ M'.1 182 1 = nI (n + 1) ∧ (∀ b, ¬ (13 * n + i ≤ b ∧ b < 13 * n + 13) → M'.1 184 b = M.1 184 b) ∧ (∀ p, i ≤ p → p < 12 → M'.1 184 (13 * n + p) = I 109 p) ∧ M'.1 184 (13 * n + 12) = I 107 3 := by
  have N0 := pSs_of hS hR 107 (by decide)
  have D := cD hS hR
  have N := cN hS hR
  have U := cU hS hR
  intro k
  induction k with
  | zero =>
    intro fu i M hMR hI hk hf
    obtain ⟨fu, rfl⟩ : ∃ f, fu = f + 1 := ⟨fu - 1, by omega⟩
    have hi : i = 12 := by omega
    subst hi
    have g1 : M.1 182 1 = nI n := by rw [hI _ _ (by decide)]; exact h1
    have g3 : M.1 107 3 = I 107 3 := hI _ _ (by decide)
    refine ⟨zsI (zsI M 184 (n * 13 + 12) (I 107 3)) 182 1 (nI (n + 1)), ?_, hMR, fun a b h => by rw [zsI_ne (by omega), zsI_ne (by omega)]; exact hI a b (by omega), zsI_at _ _ _ _, fun b h => by rw [zsI_ne (by omega), zsI_ne (by omega)], fun p h1 h2 => by omega, by rw [zsI_ne (by omega), Nat.mul_comm 13 n, zsI_at]⟩
    have hb : 12 ≤ 12 := Nat.le_refl _
    simp (disch := first | omega | simp only [qI2, hMR]) only [gX8_add_51, li12, li13', nI_leI, ↓if_pos hb, ↓D, ↓N, g1, g3, pk_mul, nI_add]
    simp (disch := first | omega | simp only [qI2, hMR]) only [↓U, ↓D, zsI_ne, g1, nI_1]
  | succ k ih =>
    intro fu i M hMR hI hk hf
    obtain ⟨fu, rfl⟩ : ∃ f, fu = f + 1 := ⟨fu - 1, by omega⟩
    have g1 : M.1 182 1 = nI n := by rw [hI _ _ (by decide)]; exact h1
    have g2 : M.1 109 i = I 109 i := hI _ _ (by decide)
    obtain ⟨M', e1, e2, e3, e4, e5, e6, e7⟩ := ih fu (i + 1) (zsI M 184 (n * 13 + i) (I 109 i)) hMR (fun a b h => by rw [zsI_ne (by omega)]; exact hI a b h) (by omega) (by omega)
    refine ⟨M', ?_, e2, e3, e4, fun b h => by rw [e5 b (by omega), zsI_ne (by omega)], fun p h3 h4 => ?_, e7⟩
    · have hb : ¬ 12 ≤ i := by omega
      simp (disch := first | omega | simp only [qI2, hMR]) only [gX8_add_51, li12, li13', nI_leI, if_neg hb, ↓D, ↓N, g1, g2, pk_mul, nI_add]
      simp (disch := first | omega | simp only [qI2, hMR]) only [↓N, ↓U, ↓D, g2, nI_1]
      exact e1
    · by_cases hp : p = i
      · subst hp
        rw [e5 _ (by omega), Nat.mul_comm 13 n, zsI_at]
      · exact e6 p (by omega) h4
theorem c_add11 {S : List (Nat × Nat)} {R : Nat → Nat → Option Nat} (hS : zShp S) (hR : pRf R) : ∀ (k fu i : Nat) (M : zM), M.2.2 = R → i + k = 247 → k < fu →
    ∃ M', gX8_add_11 S fu 182 107 (nI i) M = gX8_add_51 S zfu 182 107 0 (zsI M' 182 1 (nI 19)) ∧ M'.2.2 = R ∧ (∀ a b, ¬ (a = 184) → M'.1 a b = M.1 a b) ∧ (∀ b, i ≤ b → b < 247 → M'.1 184 b = M.1 184 (b + 13)) ∧ (∀ b, ¬ (i ≤ b ∧ b < 247) → M'.1 184 b = M.1 184 b) := by
  have D := cD hS hR
  have U := cU hS hR
  intro k
  induction k with
  | zero =>
    intro fu i M hMR hk hf
    obtain ⟨fu, rfl⟩ : ∃ f, fu = f + 1 := ⟨fu - 1, by omega⟩
    have hi : i = 247 := by omega
    subst hi
    refine ⟨M, ?_, hMR, fun _ _ _ => rfl, fun b h1 h2 => by omega, fun _ _ => rfl⟩
    have hb : 247 ≤ 247 := Nat.le_refl _
    simp (disch := first | omega | simp only [qI2, hMR]) only [gX8_add_11, li247, nI_leI, ↓if_pos hb, ↓D]
    rfl
  | succ k ih =>
    intro fu i M hMR hk hf
    obtain ⟨fu, rfl⟩ : ∃ f, fu = f + 1 := ⟨fu - 1, by omega⟩
    obtain ⟨M', e1, e2, e3, e4, e5⟩ := ih fu (i + 1) (zsI M 184 i (M.1 184 (i + 13))) hMR (by omega) (by omega)
    refine ⟨M', ?_, e2, fun a b h => by rw [e3 a b h, zsI_ne (by omega)], fun b h1 h2 => ?_, fun b h => by rw [e5 b (by omega), zsI_ne (by omega)]⟩
    · have hb : ¬ 247 ≤ i := by omega
      simp (disch := first | omega | simp only [qI2, hMR]) only [gX8_add_11, li247, li13', nI_leI, if_neg hb, ↓D, nI_add]
      simp (disch := first | omega | simp only [qI2, hMR]) only [↓U, ↓D, nI_1]
      exact e1
    · by_cases hp : b = i
      · subst hp
        rw [e5 _ (by omega), zsI_at]
      · rw [e4 b (by omega) h2, zsI_ne (by omega)]
theorem c_add {S : List (Nat × Nat)} {M : zM} {E : zEn} {K : zKa} {le : Int32} {st : zStp} (hS : zShp S) (hR : pRf M.2.2) (hP : eP E ≤ 12) (hK : pSv M.1 107 E K le) (hst : cSt M.1 E st) (h20 : st.1 ≤ 20) :
    ∃ M', gX8_add S 182 107 M = some M' ∧ M'.2.2 = M.2.2 ∧ cSt M'.1 E (addS st K) ∧ ∀ a b, ¬ (a = 182 ∨ a = 184) → M'.1 a b = M.1 a b := by
  have D := cD hS hR
  have h109 : ∀ p, p < eP E → M.1 109 p = nI (kLs K p) := hK.2.1
  have h3 : M.1 107 3 = oI (kAp K) := hK.1.2.2.2.1
  by_cases h : st.1 < 20
  · obtain ⟨M', e1, e2, e3, e4, e5, e6, e7⟩ := c_add51 (I := M.1) hS hR h hst.1 12 zfu 0 M rfl (fun _ _ _ => rfl) (by omega) (by unfold zfu; omega)
    have e1' : gX8_add_51 S zfu 182 107 0 M = some M' := e1
    refine ⟨M', ?_, e2, ?_, fun a b q => e3 a b (by omega)⟩
    · have g1 := hst.1
      simp (disch := first | omega | simp only [qI2, qL2, qC2, qF2]) only [gX8_add, ↓D, g1, li20, nI_ltI, ↓if_pos h, e1']
    · unfold addS
      rw [if_pos h]
      refine ⟨e4, fun j hj => ?_⟩
      have hj2 : j < st.1 + 1 := hj
      by_cases hjn : j = st.1
      · subst hjn
        refine ⟨fun p hp => ?_, ?_⟩
        · show _ = nI ((if st.1 = st.1 then kLs K else st.2.1 st.1) p)
          rw [if_pos rfl, e6 p (Nat.zero_le _) (by omega)]
          exact h109 p hp
        · show _ = oI (if st.1 = st.1 then kAp K else st.2.2 st.1)
          rw [if_pos rfl, e7]
          exact h3
      · have hj3 : j < st.1 := by omega
        refine ⟨fun p hp => ?_, ?_⟩
        · show _ = nI ((if j = st.1 then kLs K else st.2.1 j) p)
          rw [if_neg hjn, e5 _ (by omega)]
          exact (hst.2 j hj3).1 p hp
        · show _ = oI (if j = st.1 then kAp K else st.2.2 j)
          rw [if_neg hjn, e5 _ (by omega)]
          exact (hst.2 j hj3).2
  · have h20' : st.1 = 20 := by omega
    obtain ⟨M1, a1, a2, a3, a4, a5⟩ := c_add11 hS hR 247 zfu 0 M rfl (by omega) (by unfold zfu; omega)
    obtain ⟨M', e1, e2, e3, e4, e5, e6, e7⟩ := c_add51 (I := (zsI M1 182 1 (nI 19)).1) (n := 19) hS hR (by decide) (zsI_at _ _ _ _) 12 zfu 0 (zsI M1 182 1 (nI 19)) a2 (fun _ _ _ => rfl) (by omega) (by unfold zfu; omega)
    have a1' : gX8_add_11 S zfu 182 107 0 M = some M' := a1.trans e1
    have low : ∀ b, b < 247 → M'.1 184 b = M.1 184 (b + 13) := fun b hb => by rw [e5 b (by omega), zsI_ne (by omega), a4 b (Nat.zero_le _) hb]
    refine ⟨M', ?_, e2, ?_, fun a b q => by rw [e3 a b (by omega), zsI_ne (by omega), a3 a b (by omega)]⟩
    · have g1 := hst.1
      simp (disch := first | omega | simp only [qI2, qL2, qC2, qF2]) only [gX8_add, ↓D, g1, li20, nI_ltI, ↓if_neg h, a1']
    · unfold addS
      rw [if_neg h]
      refine ⟨e4, fun j hj => ?_⟩
      have hj2 : j < 20 := hj
      by_cases hjn : j = 19
      · subst hjn
        refine ⟨fun p hp => ?_, ?_⟩
        · show _ = nI (kLs K p)
          rw [e6 p (Nat.zero_le _) (by omega), zsI_ne (by omega), a3 109 p (by decide)]
          exact h109 p hp
        · show _ = oI (kAp K)
          rw [e7, zsI_ne (by omega), a3 107 3 (by decide)]
          exact h3
      · have hj3 : j + 1 < st.1 := by omega
        refine ⟨fun p hp => ?_, ?_⟩
        · show _ = nI ((if j = 19 then kLs K else st.2.1 (j + 1)) p)
          rw [if_neg hjn, low _ (by omega), show 13 * j + p + 13 = 13 * (j + 1) + p by omega]
          exact (hst.2 (j + 1) hj3).1 p hp
        · show _ = oI (if j = 19 then kAp K else st.2.2 (j + 1))
          rw [if_neg hjn, low _ (by omega), show 13 * j + 12 + 13 = 13 * (j + 1) + 12 by omega]
          exact (hst.2 (j + 1) hj3).2
theorem addS_W {E : zEn} {st : zStp} {K : zKa} {B : Nat} (h : stW E st) (wK : wfK E K B) : stW E (addS st K) := by
  unfold addS
  by_cases c : st.1 < 20
  · rw [if_pos c]
    refine ⟨c, fun j hj => ?_⟩
    have hj2 : j < st.1 + 1 := hj
    by_cases hjn : j = st.1
    · refine ⟨fun p hp => ?_, fun a ha => ?_⟩
      · show (if j = st.1 then kLs K else st.2.1 j) p < eT E
        rw [if_pos hjn]; exact wK.1 p hp
      · have ha2 : (if j = st.1 then kAp K else st.2.2 j) = some a := ha
        rw [if_pos hjn] at ha2; exact wK.2.2.2.1 a ha2
    · refine ⟨fun p hp => ?_, fun a ha => ?_⟩
      · show (if j = st.1 then kLs K else st.2.1 j) p < eT E
        rw [if_neg hjn]; exact (h.2 j (by omega)).1 p hp
      · have ha2 : (if j = st.1 then kAp K else st.2.2 j) = some a := ha
        rw [if_neg hjn] at ha2; exact (h.2 j (by omega)).2 a ha2
  · rw [if_neg c]
    have h20 := h.1
    refine ⟨Nat.le_refl _, fun j hj => ?_⟩
    have hj2 : j < 20 := hj
    by_cases hjn : j = 19
    · refine ⟨fun p hp => ?_, fun a ha => ?_⟩
      · show (if j = 19 then kLs K else st.2.1 (j + 1)) p < eT E
        rw [if_pos hjn]; exact wK.1 p hp
      · have ha2 : (if j = 19 then kAp K else st.2.2 (j + 1)) = some a := ha
        rw [if_pos hjn] at ha2; exact wK.2.2.2.1 a ha2
    · refine ⟨fun p hp => ?_, fun a ha => ?_⟩
      · show (if j = 19 then kLs K else st.2.1 (j + 1)) p < eT E
        rw [if_neg hjn]; exact (h.2 (j + 1) (by omega)).1 p hp
      · have ha2 : (if j = 19 then kAp K else st.2.2 (j + 1)) = some a := ha
        rw [if_neg hjn] at ha2; exact (h.2 (j + 1) (by omega)).2 a ha2
def mV (a b : Nat) : Prop := (a = 306 ∧ b = 46) ∨ (324 ≤ a ∧ a ≤ 331 ∧ 3 ≤ b ∧ b < 23) ∨ ((a = 332 ∨ a = 333) ∧ 18 ≤ b ∧ b < 138) ∨ (a = 334 ∧ 36 ≤ b ∧ b < 276) ∨ (a = 335 ∧ 15 ≤ b ∧ b < 115)
theorem m_keep11 {S : List (Nat × Nat)} {R : Nat → Nat → Option Nat} {E : zEn} {K : zKa} {st : zStp} (hS : pMs S R) (hP : eP E ≤ 12) : ∀ (k fu i : Nat) (M : zM), M.2.2 = R → 1 ≤ i → i + k = 20 → M.1 306 46 = nI 20 → (∀ j, j < i - 1 → pMk M.1 (3 + j) E (setLA K (st.2.1 (j + 1)) (st.2.2 (j + 1)))) → (∀ j, i ≤ j → j < 20 → pMk M.1 (3 + j) E (setLA K (st.2.1 j) (st.2.2 j))) → k < fu → pMk M.1 0 E K →
    ∃ M', gX12_keepNow_11 S fu 306 (nI i) M = some M' ∧ pMk M'.1 0 E K ∧ M'.1 306 46 = nI 20 ∧ (∀ j, j < 19 → pMk M'.1 (3 + j) E (setLA K (st.2.1 (j + 1)) (st.2.2 (j + 1)))) ∧ pMk M'.1 22 E K ∧ fr mV M M' := by
  intro k
  induction k with
  | zero =>
    intro fu i M hR h1 hk h46 hlo hhi hf hK
    obtain ⟨fu, rfl⟩ : ∃ f, fu = f + 1 := ⟨fu - 1, by omega⟩
    have hi : i = 20 := by omega
    subst hi
    obtain ⟨M4, e1, e2, e3⟩ := m_copies (M := zsI M 306 46 (nI 19)) (to := 22) (as := 0) (hR ▸ hS) (by decide) (by decide) (by decide) hP (pMk_cg hP (fun a b q => zsI_ne (by unfold mS at q; omega)) hK)
    have f4 : fr mV M M4 := ((fr.refl (M := M)).sI (by unfold mV; omega)).trans (e3.mono (fun a b q => by unfold mS at q; unfold mV; omega))
    have hS4 : pMs S M4.2.2 := f4.1 ▸ hR ▸ hS
    have g46 : M4.1 306 46 = nI 19 := by rw [e3.2 306 46 (by unfold mS; omega), zsI_at]
    have o4 : ∀ a b, ¬ mS 22 a b → ¬ (a = 306 ∧ b = 46) → (zsI M4 306 46 (nI 20)).1 a b = M.1 a b := fun a b q1 q2 => by rw [zsI_ne (by omega), e3.2 a b q1, zsI_ne (by omega)]
    refine ⟨zsI M4 306 46 (nI 20), ?_, pMk_cg hP (fun a b q => o4 a b (by unfold mS at *; omega) (by unfold mS at q; omega)) hK, zsI_at _ _ _ _, fun j hj => pMk_cg hP (fun a b q => o4 a b (by unfold mS at *; omega) (by unfold mS at q; omega)) (hlo j (by omega)), pMk_cg hP (fun a b q => zsI_ne (by unfold mS at q; omega)) e2, f4.sI (by unfold mV; omega)⟩
    have hb : 20 ≤ 20 := Nat.le_refl _
    have hSM : pMs S M.2.2 := hR ▸ hS
    have h19 : nI 20 - nI 1 = nI 19 := rfl
    have e1' : gX12_copies S 306 (nI (3 + 19)) (nI 0) (zsI M 306 46 (nI 19)) = some M4 := e1
    simp (disch := first | omega | simp only [qI2, qL2, qC2, qF2]) only [gX12_keepNow_11, li20, li1, li3, li0, nI_leI, ↓if_pos hb, ↓mH hSM, h46, h19, zsI_at, nI_add, ↓bind_of e1', ↓mH hS4, g46]
  | succ k ih =>
    intro fu i M hR h1 hk h46 hlo hhi hf hK
    obtain ⟨fu, rfl⟩ : ∃ f, fu = f + 1 := ⟨fu - 1, by omega⟩
    have hSM : pMs S M.2.2 := hR ▸ hS
    obtain ⟨M1, e1, e2, e3⟩ := m_copies (M := M) (to := 2 + i) (as := 3 + i) hSM (by omega) (by omega) (by omega) hP (hhi i (Nat.le_refl _) (by omega))
    obtain ⟨M', d1, d2, d3, d4, d5, d6⟩ := ih fu (i + 1) M1 (e3.1.trans hR) (by omega) (by omega) (by rw [e3.2 306 46 (by unfold mS; omega)]; exact h46) (fun j hj => by
      by_cases hji : j = i - 1
      · rw [hji, show 3 + (i - 1) = 2 + i by omega, show i - 1 + 1 = i by omega]
        exact e2
      · exact pMk_cg hP (fun a b q => e3.2 a b (by unfold mS at *; omega)) (hlo j (by omega))) (fun j h2 h3 => pMk_cg hP (fun a b q => e3.2 a b (by unfold mS at *; omega)) (hhi j (by omega) h3)) (by omega) (pMk_cg hP (fun a b q => e3.2 a b (by unfold mS at *; omega)) hK)
    refine ⟨M', ?_, d2, d3, d4, d5, (e3.mono (fun a b q => by unfold mS at q; unfold mV; omega)).trans d6⟩
    have hb : ¬ 20 ≤ i := by omega
    have hx : nI (3 + i) - nI 1 = nI (2 + i) := by rw [pk_sub (by omega)]; congr 1; omega
    simp (disch := first | omega | simp only [qI2, qL2, qC2, qF2]) only [gX12_keepNow_11, li20, li1, li3, nI_leI, if_neg hb, ↓mH hSM, nI_add, hx]
    simp (disch := first | omega | simp only [qI2, qL2, qC2, qF2]) only [↓bind_of e1, nI_add]
    exact d1
theorem m_keepNow {S : List (Nat × Nat)} {M : zM} {E : zEn} {K : zKa} {st : zStp} (hS : pMs S M.2.2) (hP : eP E ≤ 12) (hK : pMk M.1 0 E K) (hst : mSt M.1 E K st) (h20 : st.1 ≤ 20) :
    ∃ M', gX12_keepNow S 306 M = some M' ∧ pMk M'.1 0 E K ∧ mSt M'.1 E K (addS st K) ∧ fr mV M M' := by
  by_cases h : st.1 < 20
  · obtain ⟨M3, e1, e2, e3⟩ := m_copies (M := M) (to := 3 + st.1) (as := 0) hS (by omega) (by decide) (by omega) hP hK
    have hS3 : pMs S M3.2.2 := e3.1 ▸ hS
    have f3 : fr mV M M3 := e3.mono (fun a b q => by unfold mS at q; unfold mV; omega)
    have g46 : M3.1 306 46 = nI st.1 := by rw [e3.2 306 46 (by unfold mS; omega)]; exact hst.1
    have o4 : ∀ a b, ¬ mS (3 + st.1) a b → ¬ (a = 306 ∧ b = 46) → (zsI M3 306 46 (nI (st.1 + 1))).1 a b = M.1 a b := fun a b q1 q2 => by rw [zsI_ne (by omega), e3.2 a b q1]
    refine ⟨zsI M3 306 46 (nI (st.1 + 1)), ?_, pMk_cg hP (fun a b q => o4 a b (by unfold mS at *; omega) (by unfold mS at q; omega)) hK, ?_, f3.sI (by unfold mV; omega)⟩
    · have hb : ¬ st.1 = 20 := by omega
      have h1 := hst.1
      have e1' : gX12_copies S 306 (nI (3 + st.1)) (nI 0) M = some M3 := e1
      simp (disch := first | omega | simp only [qI2, qL2, qC2, qF2]) only [gX12_keepNow, li20, li3, li0, ↓mH hS, h1, nI_eq, if_neg hb, nI_add]
      simp (disch := first | omega | simp only [qI2, qL2, qC2, qF2]) only [↓bind_of e1', ↓mH hS3, g46, nI_1]
    · unfold addS
      rw [if_pos h]
      refine ⟨zsI_at _ _ _ _, fun j hj => ?_⟩
      have hj2 : j < st.1 + 1 := hj
      by_cases hjn : j = st.1
      · subst hjn
        show pMk _ _ E (setLA K (if st.1 = st.1 then kLs K else st.2.1 st.1) (if st.1 = st.1 then kAp K else st.2.2 st.1))
        rw [if_pos rfl, if_pos rfl]
        exact pMk_cg hP (fun a b q => zsI_ne (by unfold mS at q; omega)) e2
      · show pMk _ _ E (setLA K (if j = st.1 then kLs K else st.2.1 j) (if j = st.1 then kAp K else st.2.2 j))
        rw [if_neg hjn, if_neg hjn]
        exact pMk_cg hP (fun a b q => o4 a b (by unfold mS at *; omega) (by unfold mS at q; omega)) (hst.2 j (by omega))
  · have h20' : st.1 = 20 := by omega
    have h1 : M.1 306 46 = nI 20 := by rw [hst.1, h20']
    obtain ⟨M', e1, e2, e3, e4, e5, e6⟩ := m_keep11 (st := st) hS hP 19 zfu 1 M rfl (by omega) (by omega) h1 (fun j hj => by omega) (fun j h2 h3 => hst.2 j (by omega)) (by unfold zfu; omega) hK
    have e1' : gX12_keepNow_11 S zfu 306 1 M = some M' := e1
    refine ⟨M', ?_, e2, ?_, e6⟩
    · simp (disch := first | omega | simp only [qI2, qL2, qC2, qF2]) only [gX12_keepNow, ↓mH hS, h1]
      rw [if_pos (by decide)]
      exact e1'
    · unfold addS
      rw [if_neg h]
      refine ⟨e3, fun j hj => ?_⟩
      have hj2 : j < 20 := hj
      by_cases hjn : j = 19
      · subst hjn
        exact e5
      · show pMk _ _ E (setLA K (if j = 19 then kLs K else st.2.1 (j + 1)) (if j = 19 then kAp K else st.2.2 (j + 1)))
        rw [if_neg hjn, if_neg hjn]
        exact e4 j (by omega)
