/-! DayOpeners$Row: functions of its methods and their contracts: written by wip/whole/gen/dec.py -/
def gX5_init (p0 : Nat) (x1 : Int32) (S : List (Nat × Nat)) (M : zM) : Option zH := znar S M 100 ((if x1 < (0 : Int32) then (0 : Int32) else x1)) (fun S1 M2 r3 => zpR S1 M2 (p0) 5 1 0 (some (r3)) (fun M4 => some (S1, M4)))
set_option maxHeartbeats 4000000 in
set_option maxRecDepth 100000 in
theorem c_X5_init (w : zWd) (hz : zSZ w) (hg : w.2.2.2.2.2 = 0) (p0 : Nat) (x1 : Int32) (S : List (Nat × Nat)) (M : zM) : CT zfC w 2 mX5_init [.ref (p0), .int (x1)] (S, M) (gX5_init p0 x1 S M) := by
  refine CT.of (by decide) (Nat.le_of_ble_eq_true rfl) ?_
  show AJ _ _ _ _ 0 [(0, .ref (p0)), (1, .int (x1))] [] _ _
  unfold gX5_init
  refine aj_aload_n (0) dX5_init_0 rfl rfl ?_
  refine aj_obj zg_38 zg_31 zg_32 (by decide) (Nat.le_of_ble_eq_true rfl) dX5_init_1 ?_
  refine aj_aload_n (0) dX5_init_4 rfl rfl ?_
  refine aj_iload_n (1) dX5_init_5 rfl rfl ?_
  refine aj_iconst (v := (0 : Int32)) dX5_init_6 (by decide) ?_
  refine aj_mmax zg_39 zg_40 zg_3 zg_41 (by decide) (Nat.le_of_ble_eq_true rfl) dX5_init_7 ?_
  refine r_newI hg zg_46 dX5_init_10 (fun S1 M2 r3 => ?_)
  refine r_putR (TX := TX5) zc5 (by decide) rfl (Or.inr ⟨rfl, rfl, rfl, zg_42⟩) (Or.inl zg_42) dX5_init_12 (fun M4 => ?_)
  exact aj_vret dX5_init_15 rfl rfl
def gX5_copy (S : List (Nat × Nat)) (p0 : Nat) (p1 : Nat) (M : zM) : Option zM := zgR S M (p1) 5 1 0 (fun r1 => zgR S M (p0) 5 1 0 (fun r2 => zgR S M (p0) 5 1 0 (fun r3 => zal S 100 (r3) (fun v4 => zgR S M (p1) 5 1 0 (fun r5 => zal S 100 (r5) (fun v6 => zcp S M (r1) ((0 : Int32)) (r2) ((0 : Int32)) ((if v6 < v4 then v6 else v4)) (fun M7 => some M7)))))))
set_option maxHeartbeats 4000000 in
set_option maxRecDepth 100000 in
theorem c_X5_copy (w : zWd) (S : List (Nat × Nat)) (p0 : Nat) (p1 : Nat) (M : zM) : CT (zfVM S) w 2 mX5_copy [.ref (p0), .ref (p1)] (S, M) (gX5_copy S p0 p1 M) := by
  refine CT.of (by decide) (Nat.le_of_ble_eq_true rfl) ?_
  show AJ _ _ _ _ 0 [(0, .ref (p0)), (1, .ref (p1))] [] _ _
  unfold gX5_copy
  refine aj_aload_n (1) dX5_copy_0 rfl rfl ?_
  refine aj_getR (TX := TX5) zc5 (by decide) rfl (Or.inl zg_42) dX5_copy_1 (fun r1 => ?_)
  refine aj_iconst (v := (0 : Int32)) dX5_copy_4 (by decide) ?_
  refine aj_aload_n (0) dX5_copy_5 rfl rfl ?_
  refine aj_getR (TX := TX5) zc5 (by decide) rfl (Or.inl zg_42) dX5_copy_6 (fun r2 => ?_)
  refine aj_iconst (v := (0 : Int32)) dX5_copy_9 (by decide) ?_
  refine aj_aload_n (0) dX5_copy_10 rfl rfl ?_
  refine aj_getR (TX := TX5) zc5 (by decide) rfl (Or.inl zg_42) dX5_copy_11 (fun r3 => ?_)
  refine r_alen (t := 100) (by decide) dX5_copy_14 (fun v4 => ?_)
  refine aj_aload_n (1) dX5_copy_15 rfl rfl ?_
  refine aj_getR (TX := TX5) zc5 (by decide) rfl (Or.inl zg_42) dX5_copy_16 (fun r5 => ?_)
  refine r_alen (t := 100) (by decide) dX5_copy_19 (fun v6 => ?_)
  refine aj_mmin zg_802 zg_663 zg_3 zg_664 (by decide) (Nat.le_of_ble_eq_true rfl) dX5_copy_20 ?_
  refine aj_copy zg_803 zg_805 zg_804 zg_19 (by decide) (Nat.le_of_ble_eq_true rfl) dX5_copy_23 (fun M7 => ?_)
  exact aj_vret dX5_copy_26 rfl rfl
def gX5_fill_2 (S : List (Nat × Nat)) : Nat → Nat → Int32 → Int32 → zM → Option zM
  | 0 => fun _ _ _ _ => none
  | n + 1 => fun p0 x1 x2 M => zgR S M (p0) 5 1 0 (fun r1 => zal S 100 (r1) (fun v2 => (if v2 ≤ x2 then some M else zgR S M (p0) 5 1 0 (fun r3 => zbI S M (r3) (x2) (x1) (fun M4 => (gX5_fill_2 S   n) (p0) (x1) ((x2 + (1 : Int32))) M4)))))
set_option maxHeartbeats 4000000 in
set_option maxRecDepth 100000 in
theorem t_X5_fill_2 (w : zWd) (S : List (Nat × Nat)) (fu : Nat) : ∀ (p0 : Nat) (x1 : Int32) (x2 : Int32) (M : zM), AJ (zfVM S) w 1 mX5_fill 2 [(0, .ref (p0)), (1, .int (x1)), (2, .int (x2))] [] (S, M) (gX5_fill_2 S fu p0 x1 x2 M) := by
  induction fu with
  | zero => intro p0 x1 x2 M; exact AJ.none
  | succ n ih =>
    intro p0 x1 x2 M
    unfold gX5_fill_2
    refine aj_iload_n (2) dX5_fill_2 rfl rfl ?_
    refine aj_aload_n (0) dX5_fill_3 rfl rfl ?_
    refine aj_getR (TX := TX5) zc5 (by decide) rfl (Or.inl zg_42) dX5_fill_4 (fun r1 => ?_)
    refine r_alen (t := 100) (by decide) dX5_fill_7 (fun v2 => ?_)
    refine aj_icmp_ge (tgt := 24) dX5_fill_8 (by decide) (fun h => ?_) (fun h => ?_)
    · exact aj_vret dX5_fill_24 rfl rfl
    refine aj_aload_n (0) dX5_fill_11 rfl rfl ?_
    refine aj_getR (TX := TX5) zc5 (by decide) rfl (Or.inl zg_42) dX5_fill_12 (fun r3 => ?_)
    refine aj_iload_n (2) dX5_fill_15 rfl rfl ?_
    refine aj_iload_n (1) dX5_fill_16 rfl rfl ?_
    refine r_iast dX5_fill_17 (fun M4 => ?_)
    refine aj_iinc (j := 2) (v := (x2 + (1 : Int32))) (ls2 := [(2, .int ((x2 + (1 : Int32)))), (0, .ref (p0)), (1, .int (x1))]) dX5_fill_18 rfl rfl (Nat.le_of_ble_eq_true rfl) rfl ?_
    refine aj_goto (tgt := 2) dX5_fill_21 (by decide) ?_
    refine AJ.sub [1, 2, 0] rfl ?_
    exact ih (p0) (x1) ((x2 + (1 : Int32))) M4
def gX5_fill (S : List (Nat × Nat)) (p0 : Nat) (x1 : Int32) (M : zM) : Option zM := gX5_fill_2 S zfu (p0) (x1) ((0 : Int32)) M
set_option maxHeartbeats 4000000 in
set_option maxRecDepth 100000 in
theorem c_X5_fill (w : zWd) (S : List (Nat × Nat)) (p0 : Nat) (x1 : Int32) (M : zM) : CT (zfVM S) w 1 mX5_fill [.ref (p0), .int (x1)] (S, M) (gX5_fill S p0 x1 M) := by
  refine CT.of (by decide) (Nat.le_of_ble_eq_true rfl) ?_
  show AJ _ _ _ _ 0 [(0, .ref (p0)), (1, .int (x1))] [] _ _
  unfold gX5_fill
  refine aj_iconst (v := (0 : Int32)) dX5_fill_0 (by decide) ?_
  refine aj_istore_n (ls2 := [(2, .int ((0 : Int32))), (0, .ref (p0)), (1, .int (x1))]) dX5_fill_1 rfl (Nat.le_of_ble_eq_true rfl) rfl ?_
  refine AJ.sub [1, 2, 0] rfl ?_
  exact t_X5_fill_2 w S zfu (p0) (x1) ((0 : Int32)) M
def gX5_get (S : List (Nat × Nat)) (p0 : Nat) (x1 : Int32) (M : zM) : Option Int32 := (if x1 < 0 then some ((0 : Int32)) else zgR S M (p0) 5 1 0 (fun r1 => zal S 100 (r1) (fun v2 => (if v2 ≤ x1 then some ((0 : Int32)) else zgR S M (p0) 5 1 0 (fun r3 => zaI S M 100 (r3) (x1) (fun v4 => some (v4)))))))
set_option maxHeartbeats 4000000 in
set_option maxRecDepth 100000 in
theorem c_X5_get (w : zWd) (S : List (Nat × Nat)) (p0 : Nat) (x1 : Int32) (M : zM) : CT (zfI S M) w 1 mX5_get [.ref (p0), .int (x1)] (S, M) (gX5_get S p0 x1 M) := by
  refine CT.of (by decide) (Nat.le_of_ble_eq_true rfl) ?_
  show AJ _ _ _ _ 0 [(0, .ref (p0)), (1, .int (x1))] [] _ _
  unfold gX5_get
  refine aj_iload_n (1) dX5_get_0 rfl rfl ?_
  refine aj_if_lt (tgt := 22) dX5_get_1 (by decide) (fun h => ?_) (fun h => ?_)
  · refine aj_iconst (v := (0 : Int32)) dX5_get_22 (by decide) ?_
    exact aj_iret dX5_get_23 rfl rfl rfl
  refine aj_iload_n (1) dX5_get_4 rfl rfl ?_
  refine aj_aload_n (0) dX5_get_5 rfl rfl ?_
  refine aj_getR (TX := TX5) zc5 (by decide) rfl (Or.inl zg_42) dX5_get_6 (fun r1 => ?_)
  refine r_alen (t := 100) (by decide) dX5_get_9 (fun v2 => ?_)
  refine aj_icmp_ge (tgt := 22) dX5_get_10 (by decide) (fun h => ?_) (fun h => ?_)
  · refine aj_iconst (v := (0 : Int32)) dX5_get_22 (by decide) ?_
    exact aj_iret dX5_get_23 rfl rfl rfl
  refine aj_aload_n (0) dX5_get_13 rfl rfl ?_
  refine aj_getR (TX := TX5) zc5 (by decide) rfl (Or.inl zg_42) dX5_get_14 (fun r3 => ?_)
  refine aj_iload_n (1) dX5_get_17 rfl rfl ?_
  refine r_iald dX5_get_18 (fun v4 => ?_)
  refine aj_goto (tgt := 23) dX5_get_19 (by decide) ?_
  exact aj_iret dX5_get_23 rfl rfl rfl
def gX5_set (S : List (Nat × Nat)) (p0 : Nat) (x1 : Int32) (x2 : Int32) (M : zM) : Option zM := (if x1 < 0 then some M else zgR S M (p0) 5 1 0 (fun r1 => zal S 100 (r1) (fun v2 => (if v2 ≤ x1 then some M else zgR S M (p0) 5 1 0 (fun r3 => zbI S M (r3) (x1) (x2) (fun M4 => some M4))))))
set_option maxHeartbeats 4000000 in
set_option maxRecDepth 100000 in
theorem c_X5_set (w : zWd) (S : List (Nat × Nat)) (p0 : Nat) (x1 : Int32) (x2 : Int32) (M : zM) : CT (zfVM S) w 1 mX5_set [.ref (p0), .int (x1), .int (x2)] (S, M) (gX5_set S p0 x1 x2 M) := by
  refine CT.of (by decide) (Nat.le_of_ble_eq_true rfl) ?_
  show AJ _ _ _ _ 0 [(0, .ref (p0)), (1, .int (x1)), (2, .int (x2))] [] _ _
  unfold gX5_set
  refine aj_iload_n (1) dX5_set_0 rfl rfl ?_
  refine aj_if_lt (tgt := 20) dX5_set_1 (by decide) (fun h => ?_) (fun h => ?_)
  · exact aj_vret dX5_set_20 rfl rfl
  refine aj_iload_n (1) dX5_set_4 rfl rfl ?_
  refine aj_aload_n (0) dX5_set_5 rfl rfl ?_
  refine aj_getR (TX := TX5) zc5 (by decide) rfl (Or.inl zg_42) dX5_set_6 (fun r1 => ?_)
  refine r_alen (t := 100) (by decide) dX5_set_9 (fun v2 => ?_)
  refine aj_icmp_ge (tgt := 20) dX5_set_10 (by decide) (fun h => ?_) (fun h => ?_)
  · exact aj_vret dX5_set_20 rfl rfl
  refine aj_aload_n (0) dX5_set_13 rfl rfl ?_
  refine aj_getR (TX := TX5) zc5 (by decide) rfl (Or.inl zg_42) dX5_set_14 (fun r3 => ?_)
  refine aj_iload_n (1) dX5_set_17 rfl rfl ?_
  refine aj_iload_n (2) dX5_set_18 rfl rfl ?_
  refine r_iast dX5_set_19 (fun M4 => ?_)
  exact aj_vret dX5_set_20 rfl rfl
def gX5_sum_4 (S : List (Nat × Nat)) : Nat → Nat → Int32 → Int32 → zM → Option Int32
  | 0 => fun _ _ _ _ => none
  | n + 1 => fun p0 x1 x2 M => zgR S M (p0) 5 1 0 (fun r1 => zal S 100 (r1) (fun v2 => (if v2 ≤ x2 then some (x1) else zgR S M (p0) 5 1 0 (fun r3 => zaI S M 100 (r3) (x2) (fun v4 => (gX5_sum_4 S   n) (p0) ((x1 + v4)) ((x2 + (1 : Int32))) M)))))
set_option maxHeartbeats 4000000 in
set_option maxRecDepth 100000 in
theorem t_X5_sum_4 (w : zWd) (S : List (Nat × Nat)) (fu : Nat) : ∀ (p0 : Nat) (x1 : Int32) (x2 : Int32) (M : zM), AJ (zfI S M) w 1 mX5_sum 4 [(0, .ref (p0)), (1, .int (x1)), (2, .int (x2))] [] (S, M) (gX5_sum_4 S fu p0 x1 x2 M) := by
  induction fu with
  | zero => intro p0 x1 x2 M; exact AJ.none
  | succ n ih =>
    intro p0 x1 x2 M
    unfold gX5_sum_4
    refine aj_iload_n (2) dX5_sum_4 rfl rfl ?_
    refine aj_aload_n (0) dX5_sum_5 rfl rfl ?_
    refine aj_getR (TX := TX5) zc5 (by decide) rfl (Or.inl zg_42) dX5_sum_6 (fun r1 => ?_)
    refine r_alen (t := 100) (by decide) dX5_sum_9 (fun v2 => ?_)
    refine aj_icmp_ge (tgt := 28) dX5_sum_10 (by decide) (fun h => ?_) (fun h => ?_)
    · refine aj_iload_n (1) dX5_sum_28 rfl rfl ?_
      exact aj_iret dX5_sum_29 rfl rfl rfl
    refine aj_iload_n (1) dX5_sum_13 rfl rfl ?_
    refine aj_aload_n (0) dX5_sum_14 rfl rfl ?_
    refine aj_getR (TX := TX5) zc5 (by decide) rfl (Or.inl zg_42) dX5_sum_15 (fun r3 => ?_)
    refine aj_iload_n (2) dX5_sum_18 rfl rfl ?_
    refine r_iald dX5_sum_19 (fun v4 => ?_)
    refine aj_iadd dX5_sum_20 ?_
    refine aj_istore_n (ls2 := [(1, .int ((x1 + v4))), (0, .ref (p0)), (2, .int (x2))]) dX5_sum_21 rfl (Nat.le_of_ble_eq_true rfl) rfl ?_
    refine aj_iinc (j := 2) (v := (x2 + (1 : Int32))) (ls2 := [(2, .int ((x2 + (1 : Int32)))), (1, .int ((x1 + v4))), (0, .ref (p0))]) dX5_sum_22 rfl rfl (Nat.le_of_ble_eq_true rfl) rfl ?_
    refine aj_goto (tgt := 4) dX5_sum_25 (by decide) ?_
    refine AJ.sub [2, 1, 0] rfl ?_
    exact ih (p0) ((x1 + v4)) ((x2 + (1 : Int32))) M
def gX5_sum (S : List (Nat × Nat)) (p0 : Nat) (M : zM) : Option Int32 := gX5_sum_4 S zfu (p0) ((0 : Int32)) ((0 : Int32)) M
set_option maxHeartbeats 4000000 in
set_option maxRecDepth 100000 in
theorem c_X5_sum (w : zWd) (S : List (Nat × Nat)) (p0 : Nat) (M : zM) : CT (zfI S M) w 1 mX5_sum [.ref (p0)] (S, M) (gX5_sum S p0 M) := by
  refine CT.of (by decide) (Nat.le_of_ble_eq_true rfl) ?_
  show AJ _ _ _ _ 0 [(0, .ref (p0))] [] _ _
  unfold gX5_sum
  refine aj_iconst (v := (0 : Int32)) dX5_sum_0 (by decide) ?_
  refine aj_istore_n (ls2 := [(1, .int ((0 : Int32))), (0, .ref (p0))]) dX5_sum_1 rfl (Nat.le_of_ble_eq_true rfl) rfl ?_
  refine aj_iconst (v := (0 : Int32)) dX5_sum_2 (by decide) ?_
  refine aj_istore_n (ls2 := [(2, .int ((0 : Int32))), (1, .int ((0 : Int32))), (0, .ref (p0))]) dX5_sum_3 rfl (Nat.le_of_ble_eq_true rfl) rfl ?_
  refine AJ.sub [2, 1, 0] rfl ?_
  exact t_X5_sum_4 w S zfu (p0) ((0 : Int32)) ((0 : Int32)) M
