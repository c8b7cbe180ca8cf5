/-! pure part 12: the model's formula machine -/
theorem e_worksN {S : List (Nat × Nat)} {M : zM} {n : Nat} {y : Int64} (hS : pMs S M.2.2) (hn : M.1 306 32 = nI (n + 1)) (h64 : n + 1 ≤ 64) (hy : M.2.1 323 n = y) :
    gX12_works S 306 (nI (cdM 5)) M = some (1, zsL M 323 n (if lg_cmp y 0 = 0 then 1 else 0)) := by
  have s0 := hS.1
  obtain ⟨q1, q2⟩ := pMg hS 31 323 101 64 (by decide)
  unfold gX12_works
  rw [zgR_ok s0 q1, zgI_ok s0, hn, nI_pred, zaL_ok q2 (by omega) (by omega), hy, if_pos (show nI (cdM 5) = 260 by decide), zgR_ok s0 q1, zgI_ok s0, hn]
  by_cases h : lg_cmp y 0 = 0
  · rw [if_pos h, if_pos h]
    rw [(e_is (S := S) (M := M)).2, Option.bind_some, nI_pred, zbL_ok q2 (by omega) (by omega)]
  · rw [if_neg h, if_neg h]
    rw [(e_is (S := S) (M := M)).1, Option.bind_some, nI_pred, zbL_ok q2 (by omega) (by omega)]
/-- knots as the model writes them: sorts in f, values in g -/
def lsM (f g : Nat → Int32) : Nat → List (Nat × Int32) → Prop
  | _, [] => True
  | b, kv :: L => f b = (if kv.1 = 0 then 0 else if kv.1 = 1 then 1 else 2) ∧ g b = (if kv.1 = 0 ∨ kv.1 = 1 then kv.2 else nI (cdM kv.1)) ∧ kv.1 < 16 ∧ kv.1 ≠ 2 ∧ (kv.1 = 1 → ∃ j, j < 7 ∧ kv.2 = nI j) ∧ lsM f g (b + 1) L
