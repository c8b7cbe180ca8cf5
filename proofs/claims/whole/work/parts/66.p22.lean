/-! pure part 22: copies and starts of the model's calendars -/
theorem m_cp192 {S : List (Nat × Nat)} {R : Nat → Nat → Option Nat} {to as : Nat} (hS : pMs S R) (h1 : to < 30) (h2 : as < 30) (hne : to ≠ as) : ∀ (k fu i : Nat) (M : zM), M.2.2 = R → i + k = 5 → k < fu →
    ∃ M', gX12_copies_192 S fu 306 (nI to) (nI as) (nI i) M = some M' ∧ M'.2 = M.2 ∧ (∀ a b, ¬ (a = 335 ∧ 5 * to + i ≤ b ∧ b < 5 * to + 5) → M'.1 a b = M.1 a b) ∧ (∀ w, i ≤ w → w < 5 → M'.1 335 (5 * to + w) = M.1 335 (5 * as + w)) := by
  intro k
  induction k with
  | zero =>
    intro fu i M hR hk hf
    obtain ⟨fu, rfl⟩ : ∃ f, fu = f + 1 := ⟨fu - 1, by omega⟩
    have hi : i = 5 := by omega
    subst hi
    refine ⟨M, ?_, rfl, fun _ _ _ => rfl, fun w h3 h4 => by omega⟩
    simp only [gX12_copies_192]
    exact if_pos (by decide)
  | succ k ih =>
    intro fu i M hR hk hf
    obtain ⟨fu, rfl⟩ : ∃ f, fu = f + 1 := ⟨fu - 1, by omega⟩
    obtain ⟨M', e1, e2, e3, e4⟩ := ih fu (i + 1) (zsI M 335 (5 * to + i) (M.1 335 (5 * as + i))) hR (by omega) (by omega)
    refine ⟨M', ?_, e2, fun a b h => by rw [e3 a b (by omega), zsI_ne (by omega)], fun w h3 h4 => ?_⟩
    · have hb : ¬ 5 ≤ i := by omega
      simp (disch := first | omega | simp only [qI2, hR]) only [gX12_copies_192, li5, pk_mul, nI_add, nI_leI, if_neg hb, ↓mH hS, mG hS, nI_1]
      exact e1
    · by_cases hw : w = i
      · subst hw
        rw [e3 _ _ (by omega), zsI_at]
      · rw [e4 w (by omega) h4, zsI_ne (by omega)]
theorem m_cp156 {S : List (Nat × Nat)} {R : Nat → Nat → Option Nat} {to as : Nat} (hS : pMs S R) (h1 : to < 30) (h2 : as < 30) (hne : to ≠ as) : ∀ (k fu i : Nat) (M : zM), M.2.2 = R → i + k = 12 → k < fu →
    ∃ M', gX12_copies_156 S fu 306 (nI to) (nI as) (nI i) M = some M' ∧ M'.2 = M.2 ∧ (∀ a b, ¬ (a = 335 ∧ 5 * to ≤ b ∧ b < 5 * to + 5) → ¬ (a = 334 ∧ 12 * to + i ≤ b ∧ b < 12 * to + 12) → M'.1 a b = M.1 a b) ∧ (∀ w, w < 5 → M'.1 335 (5 * to + w) = M.1 335 (5 * as + w)) ∧ (∀ p, i ≤ p → p < 12 → M'.1 334 (12 * to + p) = M.1 334 (12 * as + p)) := by
  intro k
  induction k with
  | zero =>
    intro fu i M hR hk hf
    obtain ⟨fu, rfl⟩ : ∃ f, fu = f + 1 := ⟨fu - 1, by omega⟩
    have hi : i = 12 := by omega
    subst hi
    obtain ⟨M', e1, e2, e3, e4⟩ := m_cp192 hS h1 h2 hne 5 zfu 0 M hR rfl (by unfold zfu; omega)
    refine ⟨M', ?_, e2, fun a b h _ => e3 a b (by omega), fun w h => e4 w (by omega) h, fun p h3 h4 => by omega⟩
    simp only [gX12_copies_156]
    rw [if_pos (by decide)]
    exact e1
  | succ k ih =>
    intro fu i M hR hk hf
    obtain ⟨fu, rfl⟩ : ∃ f, fu = f + 1 := ⟨fu - 1, by omega⟩
    obtain ⟨M', e1, e2, e3, e4, e5⟩ := ih fu (i + 1) (zsI M 334 (12 * to + i) (M.1 334 (12 * as + i))) hR (by omega) (by omega)
    refine ⟨M', ?_, e2, fun a b h h' => by rw [e3 a b (by omega) (by omega), zsI_ne (by omega)], fun w h => by rw [e4 w h, zsI_ne (by omega)], fun p h3 h4 => ?_⟩
    · have hb : ¬ 12 ≤ i := by omega
      simp (disch := first | omega | simp only [qI2, hR]) only [gX12_copies_156, li12, pk_mul, nI_add, nI_leI, if_neg hb, ↓mH hS, mG hS, nI_1]
      exact e1
    · by_cases hw : p = i
      · subst hw
        rw [e3 _ _ (by omega) (by omega), zsI_at]
      · rw [e5 p (by omega) h4, zsI_ne (by omega)]
theorem m_cp98 {S : List (Nat × Nat)} {R : Nat → Nat → Option Nat} {to as : Nat} (hS : pMs S R) (h1 : to < 30) (h2 : as < 30) (hne : to ≠ as) : ∀ (k fu i : Nat) (M : zM), M.2.2 = R → i + k = 6 → k < fu →
    ∃ M', gX12_copies_98 S fu 306 (nI to) (nI as) (nI i) M = some M' ∧ M'.2 = M.2 ∧ (∀ a b, ¬ (a = 335 ∧ 5 * to ≤ b ∧ b < 5 * to + 5) → ¬ (a = 334 ∧ 12 * to ≤ b ∧ b < 12 * to + 12) → ¬ ((a = 332 ∨ a = 333) ∧ 6 * to + i ≤ b ∧ b < 6 * to + 6) → M'.1 a b = M.1 a b) ∧ (∀ w, w < 5 → M'.1 335 (5 * to + w) = M.1 335 (5 * as + w)) ∧ (∀ p, p < 12 → M'.1 334 (12 * to + p) = M.1 334 (12 * as + p)) ∧ (∀ t, i ≤ t → t < 6 → M'.1 332 (6 * to + t) = M.1 332 (6 * as + t) ∧ M'.1 333 (6 * to + t) = M.1 333 (6 * as + t)) := by
  intro k
  induction k with
  | zero =>
    intro fu i M hR hk hf
    obtain ⟨fu, rfl⟩ : ∃ f, fu = f + 1 := ⟨fu - 1, by omega⟩
    have hi : i = 6 := by omega
    subst hi
    obtain ⟨M', e1, e2, e3, e4, e5⟩ := m_cp156 hS h1 h2 hne 12 zfu 0 M hR rfl (by unfold zfu; omega)
    refine ⟨M', ?_, e2, fun a b h h' _ => e3 a b h (by omega), e4, fun p h => e5 p (by omega) h, fun p h3 h4 => by omega⟩
    simp only [gX12_copies_98]
    rw [if_pos (by decide)]
    exact e1
  | succ k ih =>
    intro fu i M hR hk hf
    obtain ⟨fu, rfl⟩ : ∃ f, fu = f + 1 := ⟨fu - 1, by omega⟩
    obtain ⟨M', e1, e2, e3, e4, e5, e6⟩ := ih fu (i + 1) (zsI (zsI M 332 (6 * to + i) (M.1 332 (6 * as + i))) 333 (6 * to + i) (M.1 333 (6 * as + i))) hR (by omega) (by omega)
    refine ⟨M', ?_, e2, fun a b h h' h'' => by rw [e3 a b (by omega) (by omega) (by omega), zsI_ne (by omega), zsI_ne (by omega)], fun w h => by rw [e4 w h, zsI_ne (by omega), zsI_ne (by omega)], fun p h => by rw [e5 p h, zsI_ne (by omega), zsI_ne (by omega)], fun t h3 h4 => ?_⟩
    · have hb : ¬ 6 ≤ i := by omega
      have g : (zsI M 332 (6 * to + i) (M.1 332 (6 * as + i))).1 333 (6 * as + i) = M.1 333 (6 * as + i) := zsI_ne (by omega)
      simp (disch := first | omega | simp only [qI2, hR]) only [gX12_copies_98, li6, pk_mul, nI_add, nI_leI, if_neg hb, ↓mH hS, mG hS, nI_1, g]
      exact e1
    · by_cases hw : t = i
      · subst hw
        exact ⟨by rw [e3 _ _ (by omega) (by omega) (by omega), zsI_ne (by omega), zsI_at], by rw [e3 _ _ (by omega) (by omega) (by omega), zsI_at]⟩
      · exact ⟨by rw [(e6 t (by omega) h4).1, zsI_ne (by omega), zsI_ne (by omega)], by rw [(e6 t (by omega) h4).2, zsI_ne (by omega), zsI_ne (by omega)]⟩
theorem m_copies {S : List (Nat × Nat)} {M : zM} {to as : Nat} {E : zEn} {K : zKa} (hS : pMs S M.2.2) (h1 : to < 30) (h2 : as < 30) (hne : to ≠ as) (hP : eP E ≤ 12) (hK : pMk M.1 as E K) :
    ∃ M', gX12_copies S 306 (nI to) (nI as) M = some M' ∧ pMk M'.1 to E K ∧ fr (mS to) M M' := by
  obtain ⟨⟨v0, v1, v2, v3, v4, v5, v6, v7⟩, vk, vl, vw⟩ := hK
  obtain ⟨M', e1, e2, e3, e4, e5, e6⟩ := m_cp98 hS h1 h2 hne 6 zfu 0 (zsI (zsI (zsI (zsI (zsI (zsI (zsI (zsI M 324 to (nI (kDy K))) 325 to (kNu K)) 326 to (nI (kNx K))) 327 to (oI (kAp K))) 328 to (kMi K)) 329 to (kDa K)) 330 to (kLa K)) 331 to (oI (kBy K))) rfl rfl (by unfold zfu; omega)
  refine ⟨M', ?_, ⟨⟨?_, ?_, ?_, ?_, ?_, ?_, ?_, ?_⟩, fun t ht => ⟨?_, ?_⟩, fun p hp => ?_, fun w hw => ?_⟩, by rw [e2]; rfl, fun a b h => ?_⟩
  · simp (disch := first | omega | simp only [qI2]) only [gX12_copies, ↓mH hS, ↓mG hS, zsI_ne, v0, v1, v2, v3, v4, v5, v6, v7]
    exact e1
  · rw [e3 _ _ (by omega) (by omega) (by omega)]; simp (disch := omega) only [zsI_ne, zsI_at]
  · rw [e3 _ _ (by omega) (by omega) (by omega)]; simp (disch := omega) only [zsI_ne, zsI_at]
  · rw [e3 _ _ (by omega) (by omega) (by omega)]; simp (disch := omega) only [zsI_ne, zsI_at]
  · rw [e3 _ _ (by omega) (by omega) (by omega)]; simp (disch := omega) only [zsI_ne, zsI_at]
  · rw [e3 _ _ (by omega) (by omega) (by omega)]; simp (disch := omega) only [zsI_ne, zsI_at]
  · rw [e3 _ _ (by omega) (by omega) (by omega)]; simp (disch := omega) only [zsI_ne, zsI_at]
  · rw [e3 _ _ (by omega) (by omega) (by omega)]; simp (disch := omega) only [zsI_ne, zsI_at]
  · rw [e3 _ _ (by omega) (by omega) (by omega)]; simp (disch := omega) only [zsI_ne, zsI_at]
  · rw [(e6 t (Nat.zero_le _) ht).1]; simp (disch := omega) only [zsI_ne, (vk t ht).1]
  · rw [(e6 t (Nat.zero_le _) ht).2]; simp (disch := omega) only [zsI_ne, (vk t ht).2]
  · rw [e5 p (by omega)]; simp (disch := omega) only [zsI_ne, vl p hp]
  · rw [e4 w hw]; simp (disch := omega) only [zsI_ne, vw w hw]
  · unfold mS at h
    rw [e3 _ _ (by omega) (by omega) (by omega)]; simp (disch := omega) only [zsI_ne]
theorem m_st132 {S : List (Nat × Nat)} {R : Nat → Nat → Option Nat} {s : Nat} (hS : pMs S R) (h1 : s < 30) : ∀ (k fu i : Nat) (M : zM), M.2.2 = R → i + k = 5 → k < fu →
    ∃ M', gX12_starts_132 S fu 306 (nI s) (nI i) M = some M' ∧ M'.2 = M.2 ∧ (∀ a b, ¬ (a = 335 ∧ 5 * s + i ≤ b ∧ b < 5 * s + 5) → M'.1 a b = M.1 a b) ∧ (∀ w, i ≤ w → w < 5 → M'.1 335 (5 * s + w) = nI 0) := by
  intro k
  induction k with
  | zero =>
    intro fu i M hR hk hf
    obtain ⟨fu, rfl⟩ : ∃ f, fu = f + 1 := ⟨fu - 1, by omega⟩
    have hi : i = 5 := by omega
    subst hi
    refine ⟨M, ?_, rfl, fun _ _ _ => rfl, fun w h3 h4 => by omega⟩
    simp only [gX12_starts_132]
    exact if_pos (by decide)
  | succ k ih =>
    intro fu i M hR hk hf
    obtain ⟨fu, rfl⟩ : ∃ f, fu = f + 1 := ⟨fu - 1, by omega⟩
    obtain ⟨M', e1, e2, e3, e4⟩ := ih fu (i + 1) (zsI M 335 (5 * s + i) (nI 0)) hR (by omega) (by omega)
    refine ⟨M', ?_, e2, fun a b h => by rw [e3 a b (by omega), zsI_ne (by omega)], fun w h3 h4 => ?_⟩
    · have hb : ¬ 5 ≤ i := by omega
      simp (disch := first | omega | simp only [qI2, hR]) only [gX12_starts_132, li5, li0, pk_mul, nI_add, nI_leI, if_neg hb, ↓mH hS, mG hS, nI_1]
      exact e1
    · by_cases hw : w = i
      · subst hw
        rw [e3 _ _ (by omega), zsI_at]
      · exact e4 w (by omega) h4
theorem m_st101 {S : List (Nat × Nat)} {R : Nat → Nat → Option Nat} {s : Nat} (hS : pMs S R) (h1 : s < 30) : ∀ (k fu i : Nat) (M : zM), M.2.2 = R → i + k = 12 → k < fu →
    ∃ M', gX12_starts_101 S fu 306 (nI s) (nI i) M = some M' ∧ M'.2 = M.2 ∧ (∀ a b, ¬ (a = 335 ∧ 5 * s ≤ b ∧ b < 5 * s + 5) → ¬ (a = 334 ∧ 12 * s + i ≤ b ∧ b < 12 * s + 12) → M'.1 a b = M.1 a b) ∧ (∀ w, w < 5 → M'.1 335 (5 * s + w) = nI 0) ∧ (∀ p, i ≤ p → p < 12 → M'.1 334 (12 * s + p) = M.1 312 p) := by
  intro k
  induction k with
  | zero =>
    intro fu i M hR hk hf
    obtain ⟨fu, rfl⟩ : ∃ f, fu = f + 1 := ⟨fu - 1, by omega⟩
    have hi : i = 12 := by omega
    subst hi
    obtain ⟨M', e1, e2, e3, e4⟩ := m_st132 hS h1 5 zfu 0 M hR rfl (by unfold zfu; omega)
    refine ⟨M', ?_, e2, fun a b h _ => e3 a b (by omega), fun w h => e4 w (by omega) h, fun p h3 h4 => by omega⟩
    simp only [gX12_starts_101]
    rw [if_pos (by decide)]
    exact e1
  | succ k ih =>
    intro fu i M hR hk hf
    obtain ⟨fu, rfl⟩ : ∃ f, fu = f + 1 := ⟨fu - 1, by omega⟩
    obtain ⟨M', e1, e2, e3, e4, e5⟩ := ih fu (i + 1) (zsI M 334 (12 * s + i) (M.1 312 i)) hR (by omega) (by omega)
    refine ⟨M', ?_, e2, fun a b h h' => by rw [e3 a b (by omega) (by omega), zsI_ne (by omega)], fun w h => e4 w h, fun p h3 h4 => ?_⟩
    · have hb : ¬ 12 ≤ i := by omega
      simp (disch := first | omega | simp only [qI2, hR]) only [gX12_starts_101, li12, pk_mul, nI_add, nI_leI, if_neg hb, ↓mH hS, mG hS, nI_1]
      exact e1
    · by_cases hw : p = i
      · subst hw
        rw [e3 _ _ (by omega) (by omega), zsI_at]
      · rw [e5 p (by omega) h4, zsI_ne (by omega)]
theorem m_st63 {S : List (Nat × Nat)} {R : Nat → Nat → Option Nat} {s : Nat} (hS : pMs S R) (h1 : s < 30) : ∀ (k fu i : Nat) (M : zM), M.2.2 = R → i + k = 6 → k < fu →
    ∃ M', gX12_starts_63 S fu 306 (nI s) (nI i) M = some M' ∧ M'.2 = M.2 ∧ (∀ a b, ¬ (a = 335 ∧ 5 * s ≤ b ∧ b < 5 * s + 5) → ¬ (a = 334 ∧ 12 * s ≤ b ∧ b < 12 * s + 12) → ¬ ((a = 332 ∨ a = 333) ∧ 6 * s + i ≤ b ∧ b < 6 * s + 6) → M'.1 a b = M.1 a b) ∧ (∀ w, w < 5 → M'.1 335 (5 * s + w) = nI 0) ∧ (∀ p, p < 12 → M'.1 334 (12 * s + p) = M.1 312 p) ∧ (∀ t, i ≤ t → t < 6 → M'.1 332 (6 * s + t) = nI 0 ∧ M'.1 333 (6 * s + t) = nI 0) := by
  intro k
  induction k with
  | zero =>
    intro fu i M hR hk hf
    obtain ⟨fu, rfl⟩ : ∃ f, fu = f + 1 := ⟨fu - 1, by omega⟩
    have hi : i = 6 := by omega
    subst hi
    obtain ⟨M', e1, e2, e3, e4, e5⟩ := m_st101 hS h1 12 zfu 0 M hR rfl (by unfold zfu; omega)
    refine ⟨M', ?_, e2, fun a b h h' _ => e3 a b h (by omega), e4, fun p h => e5 p (by omega) h, fun p h3 h4 => by omega⟩
    simp only [gX12_starts_63]
    rw [if_pos (by decide)]
    exact e1
  | succ k ih =>
    intro fu i M hR hk hf
    obtain ⟨fu, rfl⟩ : ∃ f, fu = f + 1 := ⟨fu - 1, by omega⟩
    obtain ⟨M', e1, e2, e3, e4, e5, e6⟩ := ih fu (i + 1) (zsI (zsI M 332 (6 * s + i) (nI 0)) 333 (6 * s + i) (nI 0)) hR (by omega) (by omega)
    refine ⟨M', ?_, e2, fun a b h h' h'' => by rw [e3 a b (by omega) (by omega) (by omega), zsI_ne (by omega), zsI_ne (by omega)], fun w h => e4 w h, fun p h => by rw [e5 p h, zsI_ne (by omega), zsI_ne (by omega)], fun t h3 h4 => ?_⟩
    · have hb : ¬ 6 ≤ i := by omega
      simp (disch := first | omega | simp only [qI2, hR]) only [gX12_starts_63, li6, li0, pk_mul, nI_add, nI_leI, if_neg hb, ↓mH hS, mG hS, nI_1]
      exact e1
    · by_cases hw : t = i
      · subst hw
        exact ⟨by rw [e3 _ _ (by omega) (by omega) (by omega), zsI_ne (by omega), zsI_at], by rw [e3 _ _ (by omega) (by omega) (by omega), zsI_at]⟩
      · exact e6 t (by omega) h4
theorem m_starts {S : List (Nat × Nat)} {M : zM} {s : Nat} {E : zEn} (hS : pMs S M.2.2) (h1 : s < 30) (wE : wfE E) (hV : pME M.1 E) :
    ∃ M', gX12_starts S 306 (nI s) M = some M' ∧ pMk M'.1 s E (K0 E) ∧ fr (mS s) M M' := by
  have hP := wE.2.1
  have u5 := hV.1.2.2.2.2.2.1
  have ul := hV.2.2.1
  obtain ⟨M', e1, e2, e3, e4, e5, e6⟩ := m_st63 hS h1 6 zfu 0 (zsI (zsI (zsI (zsI (zsI (zsI (zsI (zsI M 324 s (nI 0)) 325 s (eD E)) 326 s (nI 0)) 327 s (oI none)) 328 s (nI 0)) 329 s (nI 0)) 330 s (nI 0)) 331 s (oI none)) rfl rfl (by unfold zfu; omega)
  refine ⟨M', ?_, ⟨⟨?_, ?_, ?_, ?_, ?_, ?_, ?_, ?_⟩, fun t ht => e6 t (Nat.zero_le _) ht, fun p hp => ?_, fun w hw => e4 w hw⟩, by rw [e2]; rfl, fun a b h => ?_⟩
  · have g5 : ∀ (M2 : zM) (f : Int32 → Option zM), zaI S M2 100 308 (5 : Int32) f = f (M2.1 308 5) := fun M2 f => (mG hS).2.2.1 zM M2 5 f (by decide)
    simp (disch := first | omega | simp only [qI2]) only [gX12_starts, ↓mH hS, ↓mG hS, ↓g5, zsI_ne, u5]
    exact e1
  · rw [e3 _ _ (by omega) (by omega) (by omega)]; simp (disch := omega) only [zsI_ne, zsI_at]; rfl
  · rw [e3 _ _ (by omega) (by omega) (by omega)]; simp (disch := omega) only [zsI_ne, zsI_at]; rfl
  · rw [e3 _ _ (by omega) (by omega) (by omega)]; simp (disch := omega) only [zsI_ne, zsI_at]; rfl
  · rw [e3 _ _ (by omega) (by omega) (by omega)]; simp (disch := omega) only [zsI_ne, zsI_at]; rfl
  · rw [e3 _ _ (by omega) (by omega) (by omega)]; simp (disch := omega) only [zsI_ne, zsI_at]; rfl
  · rw [e3 _ _ (by omega) (by omega) (by omega)]; simp (disch := omega) only [zsI_ne, zsI_at]; rfl
  · rw [e3 _ _ (by omega) (by omega) (by omega)]; simp (disch := omega) only [zsI_ne, zsI_at]; rfl
  · rw [e3 _ _ (by omega) (by omega) (by omega)]; simp (disch := omega) only [zsI_ne, zsI_at]; rfl
  · rw [e5 p (by omega)]; simp (disch := omega) only [zsI_ne, ul p hp]; rfl
  · unfold mS at h
    rw [e3 _ _ (by omega) (by omega) (by omega)]; simp (disch := omega) only [zsI_ne]
