/-! pure part 11: the model's object, and its formula machine -/
def mTab : List (Nat × Nat × Nat × Nat) := [(1, 307, 100, 700), (3, 308, 100, 14), (4, 309, 100, 12), (5, 310, 100, 12), (6, 311, 100, 12), (7, 312, 100, 24), (8, 313, 100, 200), (9, 314, 100, 10), (10, 315, 100, 10), (11, 316, 100, 10), (12, 317, 100, 10), (13, 318, 100, 6), (14, 319, 100, 6), (15, 320, 100, 128), (16, 321, 100, 128), (30, 322, 101, 7), (31, 323, 101, 64), (33, 324, 100, 30), (34, 325, 100, 30), (35, 326, 100, 30), (36, 327, 100, 30), (37, 328, 100, 30), (38, 329, 100, 30), (39, 330, 100, 30), (40, 331, 100, 30), (41, 332, 100, 180), (42, 333, 100, 180), (43, 334, 100, 360), (44, 335, 100, 150), (51, 336, 100, 6), (52, 337, 100, 6), (53, 338, 100, 6), (54, 339, 100, 6), (56, 340, 100, 12), (57, 341, 100, 12), (60, 342, 100, 24), (61, 343, 100, 24), (62, 344, 102, 24), (63, 345, 100, 24), (64, 346, 102, 24), (65, 347, 100, 1464)]
def pMs (S : List (Nat × Nat)) (R : Nat → Nat → Option Nat) : Prop := S[306]? = some (12, 66) ∧ ∀ q ∈ mTab, R 306 q.1 = some q.2.1 ∧ S[q.2.1]? = some (q.2.2.1, q.2.2.2)
theorem pMg {S : List (Nat × Nat)} {R : Nat → Nat → Option Nat} (h : pMs S R) (f q t n : Nat) (hm : (f, q, t, n) ∈ mTab) : R 306 f = some q ∧ S[q]? = some (t, n) := h.2 (f, q, t, n) hm
def cdM (k : Nat) : Nat := if k = 3 then 262 else if k = 4 then 261 else if k = 5 then 260 else if k = 6 then 60 else if k = 7 then 256 else if k = 8 then 61 else if k = 9 then 257 else if k = 10 then 258 else if k = 11 then 62 else if k = 12 then 43 else if k = 13 then 45 else if k = 14 then 42 else 47
theorem e_407 {S : List (Nat × Nat)} {M : zM} {n : Nat} {v : Int64} (hS : pMs S M.2.2) (hn : M.1 306 32 = nI (n + 1)) (h64 : n < 64) : gX12_works_407 S 306 v M = some (if 0 < lg_cmp v (1000000000000 : Int64) then 0 else if lg_cmp v (-1000000000000 : Int64) < 0 then 0 else 1, zsL M 323 n v) := by
  have s0 := hS.1
  obtain ⟨q1, q2⟩ := pMg hS 31 323 101 64 (by decide)
  unfold gX12_works_407
  rw [zgR_ok s0 q1, zgI_ok s0, hn, nI_pred, zbL_ok q2 h64 (by omega)]
  split
  · rfl
  · split <;> rfl
theorem wop_lt {k : Nat} {x y v : Int64} (h : wjo k x y = v) : (if 0 < lg_cmp v (1000000000000 : Int64) then (0 : Int32) else if lg_cmp v (-1000000000000 : Int64) < 0 then 0 else 1) = (match wop k x y with | some _ => 1 | none => 0) := by
  rw [wop_lim h]
  by_cases c1 : 0 < lg_cmp v (1000000000000 : Int64)
  · rw [if_pos c1, if_pos c1]
  · rw [if_neg c1, if_neg c1]
    by_cases c2 : lg_cmp v (-1000000000000 : Int64) < 0
    · rw [if_pos c2, if_neg (by rw [lg_cmp_ge]; rw [lg_cmp_lt] at c2; exact Int64.not_le.mpr c2)]
    · rw [if_neg c2, if_pos (by rw [lg_cmp_ge]; rw [lg_cmp_lt] at c2; exact Int64.not_lt.mp c2)]
theorem e_is {S : List (Nat × Nat)} {M : zM} : gX12_is S 0 M = some 0 ∧ gX12_is S 1 M = some 1 := ⟨rfl, rfl⟩
theorem e_works {S : List (Nat × Nat)} {M : zM} {k n : Nat} {x y : Int64} (hS : pMs S M.2.2) (hn : M.1 306 32 = nI (n + 2)) (h64 : n + 2 ≤ 64) (hx : M.2.1 323 n = x) (hy : M.2.1 323 (n + 1) = y) (hk : 3 ≤ k) (hk2 : k < 16) (hk5 : k ≠ 5) :
    ∃ M', gX12_works S 306 (nI (cdM k)) M = some (match wop k x y with | some _ => 1 | none => 0, M') ∧ M'.2.2 = M.2.2 ∧ M'.2.1 322 = M.2.1 322 ∧ (∀ a b, ¬ (a = 306 ∧ b = 32) → M'.1 a b = M.1 a b) ∧ ∀ v, wop k x y = some v → M'.1 306 32 = nI (n + 1) ∧ M'.2.1 323 n = v ∧ ∀ j, j < n → M'.2.1 323 j = M.2.1 323 j := by
  have s0 := hS.1
  obtain ⟨q1, q2⟩ := pMg hS 31 323 101 64 (by decide)
  have hS8 : pMs S (zsI M 306 32 (nI (n + 1))).2.2 := hS
  have key : ∀ v : Int64, wjo k x y = v → ∃ M', gX12_works_407 S 306 v (zsI M 306 32 (nI (n + 1))) = some (match wop k x y with | some _ => 1 | none => 0, M') ∧ M'.2.2 = M.2.2 ∧ M'.2.1 322 = M.2.1 322 ∧ (∀ a b, ¬ (a = 306 ∧ b = 32) → M'.1 a b = M.1 a b) ∧ ∀ v, wop k x y = some v → M'.1 306 32 = nI (n + 1) ∧ M'.2.1 323 n = v ∧ ∀ j, j < n → M'.2.1 323 j = M.2.1 323 j := by
    intro v hv
    refine ⟨zsL (zsI M 306 32 (nI (n + 1))) 323 n v, ?_, rfl, ?_, fun a b h => (by rw [zsL_i]; exact zsI_ne (by omega)), fun v2 h2 => ⟨(by rw [zsL_i]; exact zsI_at _ _ _ _), ?_, fun j hj => zsL_ne (Or.inr (by omega))⟩⟩
    · rw [e_407 hS8 (zsI_at _ _ _ _) (by omega), wop_lt hv]
    · funext j
      exact zsL_ne (Or.inl (by decide))
    · rw [zsL_at]
      rw [wop_lim hv] at h2
      split at h2
      · cases h2
      · split at h2
        · cases h2; rfl
        · cases h2
  have lose : wop k x y = none → ∃ M', (some ((0 : Int32), zsI M 306 32 (nI (n + 1)))) = some (match wop k x y with | some _ => 1 | none => 0, M') ∧ M'.2.2 = M.2.2 ∧ M'.2.1 322 = M.2.1 322 ∧ (∀ a b, ¬ (a = 306 ∧ b = 32) → M'.1 a b = M.1 a b) ∧ ∀ v, wop k x y = some v → M'.1 306 32 = nI (n + 1) ∧ M'.2.1 323 n = v ∧ ∀ j, j < n → M'.2.1 323 j = M.2.1 323 j := fun h => ⟨zsI M 306 32 (nI (n + 1)), by rw [h], rfl, rfl, fun a b h => zsI_ne (by omega), fun v h2 => by rw [h] at h2; cases h2⟩
  have hne : nI (cdM k) ≠ 260 := by
    rcases (show k = 3 ∨ k = 4 ∨ k = 6 ∨ k = 7 ∨ k = 8 ∨ k = 9 ∨ k = 10 ∨ k = 11 ∨ k = 12 ∨ k = 13 ∨ k = 14 ∨ k = 15 by omega) with rfl | rfl | rfl | rfl | rfl | rfl | rfl | rfl | rfl | rfl | rfl | rfl <;> decide
  have c42 : nI (cdM k) = 42 ↔ k = 14 := by rcases (show k = 3 ∨ k = 4 ∨ k = 6 ∨ k = 7 ∨ k = 8 ∨ k = 9 ∨ k = 10 ∨ k = 11 ∨ k = 12 ∨ k = 13 ∨ k = 14 ∨ k = 15 by omega) with rfl | rfl | rfl | rfl | rfl | rfl | rfl | rfl | rfl | rfl | rfl | rfl <;> decide
  have c43 : nI (cdM k) = 43 ↔ k = 12 := by rcases (show k = 3 ∨ k = 4 ∨ k = 6 ∨ k = 7 ∨ k = 8 ∨ k = 9 ∨ k = 10 ∨ k = 11 ∨ k = 12 ∨ k = 13 ∨ k = 14 ∨ k = 15 by omega) with rfl | rfl | rfl | rfl | rfl | rfl | rfl | rfl | rfl | rfl | rfl | rfl <;> decide
  have c45 : nI (cdM k) = 45 ↔ k = 13 := by rcases (show k = 3 ∨ k = 4 ∨ k = 6 ∨ k = 7 ∨ k = 8 ∨ k = 9 ∨ k = 10 ∨ k = 11 ∨ k = 12 ∨ k = 13 ∨ k = 14 ∨ k = 15 by omega) with rfl | rfl | rfl | rfl | rfl | rfl | rfl | rfl | rfl | rfl | rfl | rfl <;> decide
  have c47 : nI (cdM k) = 47 ↔ k = 15 := by rcases (show k = 3 ∨ k = 4 ∨ k = 6 ∨ k = 7 ∨ k = 8 ∨ k = 9 ∨ k = 10 ∨ k = 11 ∨ k = 12 ∨ k = 13 ∨ k = 14 ∨ k = 15 by omega) with rfl | rfl | rfl | rfl | rfl | rfl | rfl | rfl | rfl | rfl | rfl | rfl <;> decide
  have c60 : nI (cdM k) = 60 ↔ k = 6 := by rcases (show k = 3 ∨ k = 4 ∨ k = 6 ∨ k = 7 ∨ k = 8 ∨ k = 9 ∨ k = 10 ∨ k = 11 ∨ k = 12 ∨ k = 13 ∨ k = 14 ∨ k = 15 by omega) with rfl | rfl | rfl | rfl | rfl | rfl | rfl | rfl | rfl | rfl | rfl | rfl <;> decide
  have c61 : nI (cdM k) = 61 ↔ k = 8 := by rcases (show k = 3 ∨ k = 4 ∨ k = 6 ∨ k = 7 ∨ k = 8 ∨ k = 9 ∨ k = 10 ∨ k = 11 ∨ k = 12 ∨ k = 13 ∨ k = 14 ∨ k = 15 by omega) with rfl | rfl | rfl | rfl | rfl | rfl | rfl | rfl | rfl | rfl | rfl | rfl <;> decide
  have c62 : nI (cdM k) = 62 ↔ k = 11 := by rcases (show k = 3 ∨ k = 4 ∨ k = 6 ∨ k = 7 ∨ k = 8 ∨ k = 9 ∨ k = 10 ∨ k = 11 ∨ k = 12 ∨ k = 13 ∨ k = 14 ∨ k = 15 by omega) with rfl | rfl | rfl | rfl | rfl | rfl | rfl | rfl | rfl | rfl | rfl | rfl <;> decide
  have c256 : nI (cdM k) = 256 ↔ k = 7 := by rcases (show k = 3 ∨ k = 4 ∨ k = 6 ∨ k = 7 ∨ k = 8 ∨ k = 9 ∨ k = 10 ∨ k = 11 ∨ k = 12 ∨ k = 13 ∨ k = 14 ∨ k = 15 by omega) with rfl | rfl | rfl | rfl | rfl | rfl | rfl | rfl | rfl | rfl | rfl | rfl <;> decide
  have c257 : nI (cdM k) = 257 ↔ k = 9 := by rcases (show k = 3 ∨ k = 4 ∨ k = 6 ∨ k = 7 ∨ k = 8 ∨ k = 9 ∨ k = 10 ∨ k = 11 ∨ k = 12 ∨ k = 13 ∨ k = 14 ∨ k = 15 by omega) with rfl | rfl | rfl | rfl | rfl | rfl | rfl | rfl | rfl | rfl | rfl | rfl <;> decide
  have c258 : nI (cdM k) = 258 ↔ k = 10 := by rcases (show k = 3 ∨ k = 4 ∨ k = 6 ∨ k = 7 ∨ k = 8 ∨ k = 9 ∨ k = 10 ∨ k = 11 ∨ k = 12 ∨ k = 13 ∨ k = 14 ∨ k = 15 by omega) with rfl | rfl | rfl | rfl | rfl | rfl | rfl | rfl | rfl | rfl | rfl | rfl <;> decide
  have c261 : nI (cdM k) = 261 ↔ k = 4 := by rcases (show k = 3 ∨ k = 4 ∨ k = 6 ∨ k = 7 ∨ k = 8 ∨ k = 9 ∨ k = 10 ∨ k = 11 ∨ k = 12 ∨ k = 13 ∨ k = 14 ∨ k = 15 by omega) with rfl | rfl | rfl | rfl | rfl | rfl | rfl | rfl | rfl | rfl | rfl | rfl <;> decide
  unfold gX12_works
  rw [zgR_ok s0 q1, zgI_ok s0, hn, nI_m1 (by omega), show n + 2 - 1 = n + 1 by omega, zaL_ok q2 (by omega) (by omega), hy, if_neg hne, zgR_ok s0 q1, zgI_ok s0, hn, nI_m2 (by omega), show n + 2 - 2 = n by omega, zaL_ok q2 (by omega) (by omega), hx, zgI_ok s0, hn, zpI_ok s0, nI_m1 (by omega), show n + 2 - 1 = n + 1 by omega]
  simp only [c42, c43, c45, c47, c60, c61, c62, c256, c257, c258, c261]
  rcases (show k = 3 ∨ k = 4 ∨ k = 6 ∨ k = 7 ∨ k = 8 ∨ k = 9 ∨ k = 10 ∨ k = 11 ∨ k = 12 ∨ k = 13 ∨ k = 14 ∨ k = 15 by omega) with rfl | rfl | rfl | rfl | rfl | rfl | rfl | rfl | rfl | rfl | rfl | rfl
  all_goals simp only [Nat.reduceEqDiff, if_true, if_false]
  · split
    · split
      · exact key _ (by unfold wjo; simp [*])
      · exact key _ (by unfold wjo; simp [*])
    · exact key _ (by unfold wjo; simp [*])
  · split
    · exact key _ (by unfold wjo; simp [*])
    · split
      · exact key _ (by unfold wjo; simp [*])
      · exact key _ (by unfold wjo; simp [*])
  · split
    · exact key _ (by unfold wjo; simp [*])
    · exact key _ (by unfold wjo; simp [*])
  · split
    · exact key _ (by unfold wjo; simp [*])
    · exact key _ (by unfold wjo; simp [*])
  · split
    · exact key _ (by unfold wjo; simp [*])
    · exact key _ (by unfold wjo; simp [*])
  · split
    · exact key _ (by unfold wjo; simp [*])
    · exact key _ (by unfold wjo; simp [*])
  · split
    · exact key _ (by unfold wjo; simp [*])
    · exact key _ (by unfold wjo; simp [*])
  · split
    · exact key _ (by unfold wjo; simp [*])
    · exact key _ (by unfold wjo; simp [*])
  · exact key _ rfl
  · exact key _ rfl
  · by_cases h0 : lg_cmp x 0 = 0
    · rw [if_pos h0]
      exact key _ (by unfold wjo; simp [h0])
    · rw [if_neg h0, if_neg (abs0 h0)]
      by_cases h1 : lg_cmp (if 0 < y then y else -y) ((1000000000000 : Int64) / (if 0 < x then x else -x)) ≤ 0
      · rw [if_pos h1]
        refine key _ ?_
        unfold wjo
        simp only [Nat.reduceEqDiff, if_true, if_false]
        rw [if_neg h0, if_neg (Int32.not_lt.mpr h1)]
      · rw [if_neg h1]
        refine lose ?_
        have hw : wjo 14 x y = lMin := by
          unfold wjo
          simp only [Nat.reduceEqDiff, if_true, if_false]
          rw [if_neg h0, if_pos (Int32.not_le.mp h1)]
        rw [wop_lim hw, if_neg (by decide), if_neg (by decide)]
  · by_cases h0 : lg_cmp y 0 = 0
    · rw [if_pos h0]
      refine lose ?_
      have hw : wjo 15 x y = lMin := by
        unfold wjo
        simp only [Nat.reduceEqDiff, if_true, if_false]
        rw [if_pos h0]
      rw [wop_lim hw, if_neg (by decide), if_neg (by decide)]
    · rw [if_neg h0, if_neg (fun h => h0 (cmp0.mpr h))]
      refine key _ ?_
      unfold wjo
      simp only [Nat.reduceEqDiff, if_true, if_false]
      rw [if_neg h0]
