/-! DayOpeners$State: functions of its methods and their contracts: written by wip/whole/gen/dec.py -/
def gX7_draw (S : List (Nat × Nat)) (p0 : Nat) (M : zM) : Option (Int32 × zM) := zgI S M (p0) 7 15 2 (fun v1 => zpI S M (p0) 7 15 2 ((((v1 * (1103515245 : Int32)) + (12345 : Int32)) &&& (2147483647 : Int32))) (fun M2 => zgI S M2 (p0) 7 15 2 (fun v3 => some ((v3 / (65536 : Int32)), M2))))
set_option maxHeartbeats 4000000 in
set_option maxRecDepth 100000 in
theorem c_X7_draw (w : zWd) (S : List (Nat × Nat)) (p0 : Nat) (M : zM) : CT (zfIM S) w 1 mX7_draw [.ref (p0)] (S, M) (gX7_draw S p0 M) := by
  refine CT.of (by decide) (Nat.le_of_ble_eq_true rfl) ?_
  show AJ _ _ _ _ 0 [(0, .ref (p0))] [] _ _
  unfold gX7_draw
  refine aj_aload_n (0) dX7_draw_0 rfl rfl ?_
  refine aj_aload_n (0) dX7_draw_1 rfl rfl ?_
  refine r_getI (TX := TX7) zc7 (by decide) rfl (Or.inl zg_333) dX7_draw_2 (fun v1 => ?_)
  refine aj_ldc (v := (1103515245 : Int32)) dX7_draw_5 zg_948 ?_
  refine aj_imul dX7_draw_7 ?_
  refine aj_sipush (v := (12345 : Int32)) dX7_draw_8 (by decide) ?_
  refine aj_iadd dX7_draw_11 ?_
  refine aj_ldc (v := (2147483647 : Int32)) dX7_draw_12 zg_949 ?_
  refine aj_iand dX7_draw_14 ?_
  refine r_putI (TX := TX7) zc7 (by decide) rfl rfl rfl rfl (Or.inl zg_333) dX7_draw_15 (fun M2 => ?_)
  refine aj_aload_n (0) dX7_draw_18 rfl rfl ?_
  refine r_getI (TX := TX7) zc7 (by decide) rfl (Or.inl zg_333) dX7_draw_19 (fun v3 => ?_)
  refine aj_ldc (v := (65536 : Int32)) dX7_draw_22 zg_950 ?_
  refine aj_idivc dX7_draw_24 (by decide) ?_
  exact aj_iret dX7_draw_25 rfl rfl rfl
def gX7_behind (S : List (Nat × Nat)) (p0 : Nat) (x1 : Int32) (M : zM) : Option Int32 := zgI S M (p0) 7 15 10 (fun v1 => (if v1 ≤ (x1 + (1 : Int32)) then some ((0 : Int32)) else some ((x1 + (1 : Int32)))))
set_option maxHeartbeats 4000000 in
set_option maxRecDepth 100000 in
theorem c_X7_behind (w : zWd) (S : List (Nat × Nat)) (p0 : Nat) (x1 : Int32) (M : zM) : CT (zfI S M) w 1 mX7_behind [.ref (p0), .int (x1)] (S, M) (gX7_behind S p0 x1 M) := by
  refine CT.of (by decide) (Nat.le_of_ble_eq_true rfl) ?_
  show AJ _ _ _ _ 0 [(0, .ref (p0)), (1, .int (x1))] [] _ _
  unfold gX7_behind
  refine aj_iload_n (1) dX7_behind_0 rfl rfl ?_
  refine aj_iconst (v := (1 : Int32)) dX7_behind_1 (by decide) ?_
  refine aj_iadd dX7_behind_2 ?_
  refine aj_aload_n (0) dX7_behind_3 rfl rfl ?_
  refine r_getI (TX := TX7) zc7 (by decide) rfl (Or.inl zg_358) dX7_behind_4 (fun v1 => ?_)
  refine aj_icmp_ge (tgt := 16) dX7_behind_7 (by decide) (fun h => ?_) (fun h => ?_)
  · refine aj_iconst (v := (0 : Int32)) dX7_behind_16 (by decide) ?_
    exact aj_iret dX7_behind_17 rfl rfl rfl
  refine aj_iload_n (1) dX7_behind_10 rfl rfl ?_
  refine aj_iconst (v := (1 : Int32)) dX7_behind_11 (by decide) ?_
  refine aj_iadd dX7_behind_12 ?_
  refine aj_goto (tgt := 17) dX7_behind_13 (by decide) ?_
  exact aj_iret dX7_behind_17 rfl rfl rfl
def gX7_bringOn_49 (S : List (Nat × Nat)) (k2 : Nat → Nat → Int32 → Int32 → zM → Option zM) (p0 : Nat) (p1 : Nat) (x2 : Int32) (x3 : Int32) (x4 : Int32) (x0s : Int32) (M : zM) : Option zM := (if x0s = 0 then k2 (p0) (p1) (x2) ((x3 + (1 : Int32))) M else zgR S M (p1) 10 18 14 (fun r1 => zrc S (r1) 5 1 ((gX5_get S (r1) (x3) M).bind (fun v2 => (if v2 ≤ x4 then k2 (p0) (p1) (x2) ((x3 + (1 : Int32))) M else zgR S M (p0) 7 15 14 (fun r3 => zrc S (r3) 5 1 ((gX5_set S (r3) (x3) ((x4 + (1 : Int32))) M).bind (fun M4 => zgI S M4 (p0) 7 15 5 (fun v5 => zgR S M4 (p1) 10 18 14 (fun r6 => zrc S (r6) 5 1 ((gX5_get S (r6) (x3) M4).bind (fun v7 => (if (x4 + (1 : Int32)) = v7 then zpI S M4 (p0) 7 15 5 ((v5 - (1 : Int32))) (fun M9 => k2 (p0) (p1) (x2) ((x3 + (1 : Int32))) M9) else zpI S M4 (p0) 7 15 5 ((v5 - (0 : Int32))) (fun M8 => k2 (p0) (p1) (x2) ((x3 + (1 : Int32))) M8))))))))))))))
set_option maxHeartbeats 4000000 in
set_option maxRecDepth 100000 in
theorem t_X7_bringOn_49 (w : zWd) (S : List (Nat × Nat)) (k2 : Nat → Nat → Int32 → Int32 → zM → Option zM) (hk2 : ∀ (p0 : Nat) (p1 : Nat) (x2 : Int32) (x3 : Int32) (M : zM), AJ (zfVM S) w 2 mX7_bringOn 2 [(0, .ref (p0)), (1, .ref (p1)), (2, .int (x2)), (3, .int (x3))] [] (S, M) (k2 p0 p1 x2 x3 M)) (p0 : Nat) (p1 : Nat) (x2 : Int32) (x3 : Int32) (x4 : Int32) (x0s : Int32) (M : zM) : AJ (zfVM S) w 2 mX7_bringOn 49 [(0, .ref (p0)), (1, .ref (p1)), (2, .int (x2)), (3, .int (x3)), (4, .int (x4))] [.int (x0s)] (S, M) (gX7_bringOn_49 S k2 p0 p1 x2 x3 x4 x0s M) := by
  unfold gX7_bringOn_49
  refine aj_istore (ls2 := [(5, .int (x0s)), (0, .ref (p0)), (1, .ref (p1)), (2, .int (x2)), (3, .int (x3)), (4, .int (x4))]) dX7_bringOn_49 (Nat.le_of_ble_eq_true rfl) rfl ?_
  refine aj_iload (0) dX7_bringOn_51 rfl ?_
  refine aj_if_eq (tgt := 110) dX7_bringOn_53 (by decide) (fun h => ?_) (fun h => ?_)
  · refine aj_iinc (j := 4) (v := (x3 + (1 : Int32))) (ls2 := [(3, .int ((x3 + (1 : Int32)))), (5, .int (x0s)), (0, .ref (p0)), (1, .ref (p1)), (2, .int (x2)), (4, .int (x4))]) dX7_bringOn_110 rfl rfl (Nat.le_of_ble_eq_true rfl) rfl ?_
    refine aj_goto (tgt := 2) dX7_bringOn_113 (by decide) ?_
    refine AJ.sub [2, 3, 4, 0] rfl ?_
    exact hk2 (p0) (p1) (x2) ((x3 + (1 : Int32))) M
  refine aj_iload (5) dX7_bringOn_56 rfl ?_
  refine aj_aload_n (2) dX7_bringOn_58 rfl rfl ?_
  refine aj_getR (TX := TX10) zc10 (by decide) rfl (Or.inr ⟨_, zn_231⟩) dX7_bringOn_59 (fun r1 => ?_)
  refine aj_iload_n (4) dX7_bringOn_62 rfl rfl ?_
  refine rV_I (as := [.int (x3)]) (c_X5_get w S _ _ _) mv_X5_get rfl zg_960 (by decide) (Nat.le_of_ble_eq_true rfl) dX7_bringOn_63 (fun v2 => ?_)
  refine aj_icmp_ge (tgt := 110) dX7_bringOn_66 (by decide) (fun h => ?_) (fun h => ?_)
  · refine aj_iinc (j := 4) (v := (x3 + (1 : Int32))) (ls2 := [(3, .int ((x3 + (1 : Int32)))), (5, .int (x0s)), (0, .ref (p0)), (1, .ref (p1)), (2, .int (x2)), (4, .int (x4))]) dX7_bringOn_110 rfl rfl (Nat.le_of_ble_eq_true rfl) rfl ?_
    refine aj_goto (tgt := 2) dX7_bringOn_113 (by decide) ?_
    refine AJ.sub [2, 3, 4, 0] rfl ?_
    exact hk2 (p0) (p1) (x2) ((x3 + (1 : Int32))) M
  refine aj_aload_n (1) dX7_bringOn_69 rfl rfl ?_
  refine aj_getR (TX := TX7) zc7 (by decide) rfl (Or.inl zg_373) dX7_bringOn_70 (fun r3 => ?_)
  refine aj_iload_n (4) dX7_bringOn_73 rfl rfl ?_
  refine aj_iload (5) dX7_bringOn_74 rfl ?_
  refine aj_iconst (v := (1 : Int32)) dX7_bringOn_76 (by decide) ?_
  refine aj_iadd dX7_bringOn_77 ?_
  refine rV_VM (as := [.int (x3), .int ((x4 + (1 : Int32)))]) (c_X5_set w S _ _ _ _) mv_X5_set rfl zg_963 (by decide) (Nat.le_of_ble_eq_true rfl) dX7_bringOn_78 (fun M4 => ?_)
  refine aj_aload_n (1) dX7_bringOn_81 rfl rfl ?_
  refine aj_dup dX7_bringOn_82 rfl ?_
  refine r_getI (TX := TX7) zc7 (by decide) rfl (Or.inl zg_343) dX7_bringOn_83 (fun v5 => ?_)
  refine aj_iload (5) dX7_bringOn_86 rfl ?_
  refine aj_iconst (v := (1 : Int32)) dX7_bringOn_88 (by decide) ?_
  refine aj_iadd dX7_bringOn_89 ?_
  refine aj_aload_n (2) dX7_bringOn_90 rfl rfl ?_
  refine aj_getR (TX := TX10) zc10 (by decide) rfl (Or.inr ⟨_, zn_231⟩) dX7_bringOn_91 (fun r6 => ?_)
  refine aj_iload_n (4) dX7_bringOn_94 rfl rfl ?_
  refine rV_I (as := [.int (x3)]) (c_X5_get w S _ _ _) mv_X5_get rfl zg_960 (by decide) (Nat.le_of_ble_eq_true rfl) dX7_bringOn_95 (fun v7 => ?_)
  refine aj_icmp_ne (tgt := 105) dX7_bringOn_98 (by decide) (fun h => ?_) (fun h => ?_)
  · refine aj_iconst (v := (0 : Int32)) dX7_bringOn_105 (by decide) ?_
    refine aj_isub dX7_bringOn_106 ?_
    refine r_putI (TX := TX7) zc7 (by decide) rfl rfl rfl rfl (Or.inl zg_343) dX7_bringOn_107 (fun M8 => ?_)
    refine aj_iinc (j := 4) (v := (x3 + (1 : Int32))) (ls2 := [(3, .int ((x3 + (1 : Int32)))), (5, .int (x0s)), (0, .ref (p0)), (1, .ref (p1)), (2, .int (x2)), (4, .int (x4))]) dX7_bringOn_110 rfl rfl (Nat.le_of_ble_eq_true rfl) rfl ?_
    refine aj_goto (tgt := 2) dX7_bringOn_113 (by decide) ?_
    refine AJ.sub [2, 3, 4, 0] rfl ?_
    exact hk2 (p0) (p1) (x2) ((x3 + (1 : Int32))) M8
  refine aj_iconst (v := (1 : Int32)) dX7_bringOn_101 (by decide) ?_
  refine aj_goto (tgt := 106) dX7_bringOn_102 (by decide) ?_
  refine aj_isub dX7_bringOn_106 ?_
  refine r_putI (TX := TX7) zc7 (by decide) rfl rfl rfl rfl (Or.inl zg_343) dX7_bringOn_107 (fun M9 => ?_)
  refine aj_iinc (j := 4) (v := (x3 + (1 : Int32))) (ls2 := [(3, .int ((x3 + (1 : Int32)))), (5, .int (x0s)), (0, .ref (p0)), (1, .ref (p1)), (2, .int (x2)), (4, .int (x4))]) dX7_bringOn_110 rfl rfl (Nat.le_of_ble_eq_true rfl) rfl ?_
  refine aj_goto (tgt := 2) dX7_bringOn_113 (by decide) ?_
  refine AJ.sub [2, 3, 4, 0] rfl ?_
  exact hk2 (p0) (p1) (x2) ((x3 + (1 : Int32))) M9
def gX7_bringOn_2 (S : List (Nat × Nat)) : Nat → Nat → Nat → Int32 → Int32 → zM → Option zM
  | 0 => fun _ _ _ _ _ => none
  | n + 1 => fun p0 p1 x2 x3 M => zgI S M (p1) 10 18 10 (fun v1 => (if v1 ≤ x3 then some M else zgR S M (p0) 7 15 14 (fun r2 => zrc S (r2) 5 1 ((gX5_get S (r2) (x3) M).bind (fun v3 => zgR S M (p1) 10 18 12 (fun r4 => zrc S (r4) 5 1 ((gX5_get S (r4) (x3) M).bind (fun v5 => (if x2 < v5 then gX7_bringOn_49 S (gX7_bringOn_2 S   n) (p0) (p1) (x2) (x3) (v3) ((0 : Int32)) M else zgR S M (p1) 10 18 13 (fun r6 => zrc S (r6) 5 1 ((gX5_get S (r6) (x3) M).bind (fun v7 => (if v7 < x2 then gX7_bringOn_49 S (gX7_bringOn_2 S   n) (p0) (p1) (x2) (x3) (v3) ((0 : Int32)) M else gX7_bringOn_49 S (gX7_bringOn_2 S   n) (p0) (p1) (x2) (x3) (v3) ((1 : Int32)) M)))))))))))))
set_option maxHeartbeats 4000000 in
set_option maxRecDepth 100000 in
theorem t_X7_bringOn_2 (w : zWd) (S : List (Nat × Nat)) (fu : Nat) : ∀ (p0 : Nat) (p1 : Nat) (x2 : Int32) (x3 : Int32) (M : zM), AJ (zfVM S) w 2 mX7_bringOn 2 [(0, .ref (p0)), (1, .ref (p1)), (2, .int (x2)), (3, .int (x3))] [] (S, M) (gX7_bringOn_2 S fu p0 p1 x2 x3 M) := by
  induction fu with
  | zero => intro p0 p1 x2 x3 M; exact AJ.none
  | succ n ih =>
    intro p0 p1 x2 x3 M
    unfold gX7_bringOn_2
    refine aj_iload_n (3) dX7_bringOn_2 rfl rfl ?_
    refine aj_aload_n (1) dX7_bringOn_3 rfl rfl ?_
    refine r_getI (TX := TX10) zc10 (by decide) rfl (Or.inr ⟨_, zn_213⟩) dX7_bringOn_4 (fun v1 => ?_)
    refine aj_icmp_ge (tgt := 116) dX7_bringOn_7 (by decide) (fun h => ?_) (fun h => ?_)
    · exact aj_vret dX7_bringOn_116 rfl rfl
    refine aj_aload_n (0) dX7_bringOn_10 rfl rfl ?_
    refine aj_getR (TX := TX7) zc7 (by decide) rfl (Or.inl zg_373) dX7_bringOn_11 (fun r2 => ?_)
    refine aj_iload_n (3) dX7_bringOn_14 rfl rfl ?_
    refine rV_I (as := [.int (x3)]) (c_X5_get w S _ _ _) mv_X5_get rfl zg_960 (by decide) (Nat.le_of_ble_eq_true rfl) dX7_bringOn_15 (fun v3 => ?_)
    refine aj_istore (ls2 := [(4, .int (v3)), (0, .ref (p0)), (1, .ref (p1)), (2, .int (x2)), (3, .int (x3))]) dX7_bringOn_18 (Nat.le_of_ble_eq_true rfl) rfl ?_
    refine aj_aload_n (2) dX7_bringOn_20 rfl rfl ?_
    refine aj_getR (TX := TX10) zc10 (by decide) rfl (Or.inr ⟨_, zn_221⟩) dX7_bringOn_21 (fun r4 => ?_)
    refine aj_iload_n (4) dX7_bringOn_24 rfl rfl ?_
    refine rV_I (as := [.int (x3)]) (c_X5_get w S _ _ _) mv_X5_get rfl zg_960 (by decide) (Nat.le_of_ble_eq_true rfl) dX7_bringOn_25 (fun v5 => ?_)
    refine aj_iload_n (3) dX7_bringOn_28 rfl rfl ?_
    refine aj_icmp_gt (tgt := 48) dX7_bringOn_29 (by decide) (fun h => ?_) (fun h => ?_)
    · refine aj_iconst (v := (0 : Int32)) dX7_bringOn_48 (by decide) ?_
      refine AJ.sub [1, 2, 3, 4, 0] rfl ?_
      exact t_X7_bringOn_49 w S (gX7_bringOn_2 S   n) ih (p0) (p1) (x2) (x3) (v3) ((0 : Int32)) M
    refine aj_aload_n (2) dX7_bringOn_32 rfl rfl ?_
    refine aj_getR (TX := TX10) zc10 (by decide) rfl (Or.inr ⟨_, zn_226⟩) dX7_bringOn_33 (fun r6 => ?_)
    refine aj_iload_n (4) dX7_bringOn_36 rfl rfl ?_
    refine rV_I (as := [.int (x3)]) (c_X5_get w S _ _ _) mv_X5_get rfl zg_960 (by decide) (Nat.le_of_ble_eq_true rfl) dX7_bringOn_37 (fun v7 => ?_)
    refine aj_iload_n (3) dX7_bringOn_40 rfl rfl ?_
    refine aj_icmp_lt (tgt := 48) dX7_bringOn_41 (by decide) (fun h => ?_) (fun h => ?_)
    · refine aj_iconst (v := (0 : Int32)) dX7_bringOn_48 (by decide) ?_
      refine AJ.sub [1, 2, 3, 4, 0] rfl ?_
      exact t_X7_bringOn_49 w S (gX7_bringOn_2 S   n) ih (p0) (p1) (x2) (x3) (v3) ((0 : Int32)) M
    refine aj_iconst (v := (1 : Int32)) dX7_bringOn_44 (by decide) ?_
    refine aj_goto (tgt := 49) dX7_bringOn_45 (by decide) ?_
    refine AJ.sub [1, 2, 3, 4, 0] rfl ?_
    exact t_X7_bringOn_49 w S (gX7_bringOn_2 S   n) ih (p0) (p1) (x2) (x3) (v3) ((1 : Int32)) M
def gX7_bringOn (S : List (Nat × Nat)) (p0 : Nat) (p1 : Nat) (x2 : Int32) (M : zM) : Option zM := gX7_bringOn_2 S zfu (p0) (p1) (x2) ((0 : Int32)) M
set_option maxHeartbeats 4000000 in
set_option maxRecDepth 100000 in
theorem c_X7_bringOn (w : zWd) (S : List (Nat × Nat)) (p0 : Nat) (p1 : Nat) (x2 : Int32) (M : zM) : CT (zfVM S) w 2 mX7_bringOn [.ref (p0), .ref (p1), .int (x2)] (S, M) (gX7_bringOn S p0 p1 x2 M) := by
  refine CT.of (by decide) (Nat.le_of_ble_eq_true rfl) ?_
  show AJ _ _ _ _ 0 [(0, .ref (p0)), (1, .ref (p1)), (2, .int (x2))] [] _ _
  unfold gX7_bringOn
  refine aj_iconst (v := (0 : Int32)) dX7_bringOn_0 (by decide) ?_
  refine aj_istore_n (ls2 := [(3, .int ((0 : Int32))), (0, .ref (p0)), (1, .ref (p1)), (2, .int (x2))]) dX7_bringOn_1 rfl (Nat.le_of_ble_eq_true rfl) rfl ?_
  refine AJ.sub [1, 2, 3, 0] rfl ?_
  exact t_X7_bringOn_2 w S zfu (p0) (p1) (x2) ((0 : Int32)) M
def gX7_opens (S : List (Nat × Nat)) (p0 : Nat) (x1 : Int32) (x2 : Int32) (x3 : Int32) (M : zM) : Option zM := zpI S M (p0) 7 15 9 (x1) (fun M1 => zpI S M1 (p0) 7 15 4 (x2) (fun M2 => zgI S M2 (p0) 7 15 8 (fun v3 => zpI S M2 (p0) 7 15 8 ((v3 + x2)) (fun M4 => zgR S M4 (p0) 7 15 12 (fun r5 => zgR S M4 (p0) 7 15 12 (fun r6 => zrc S (r6) 5 1 ((gX5_get S (r6) (x1) M4).bind (fun v7 => zrc S (r5) 5 1 ((gX5_set S (r5) (x1) ((if (0 : Int32) < (if (v7 + x3) < (999 : Int32) then (v7 + x3) else (999 : Int32)) then (if (v7 + x3) < (999 : Int32) then (v7 + x3) else (999 : Int32)) else (0 : Int32))) M4).bind (fun M8 => zgR S M8 (p0) 7 15 13 (fun r9 => zgR S M8 (p0) 7 15 13 (fun r10 => zrc S (r10) 5 1 ((gX5_get S (r10) (x1) M8).bind (fun v11 => zrc S (r9) 5 1 ((gX5_set S (r9) (x1) ((if (v11 + (1 : Int32)) < (9999 : Int32) then (v11 + (1 : Int32)) else (9999 : Int32))) M8).bind (fun M12 => some M12))))))))))))))))
set_option maxHeartbeats 4000000 in
set_option maxRecDepth 100000 in
theorem c_X7_opens (w : zWd) (S : List (Nat × Nat)) (p0 : Nat) (x1 : Int32) (x2 : Int32) (x3 : Int32) (M : zM) : CT (zfVM S) w 2 mX7_opens [.ref (p0), .int (x1), .int (x2), .int (x3)] (S, M) (gX7_opens S p0 x1 x2 x3 M) := by
  refine CT.of (by decide) (Nat.le_of_ble_eq_true rfl) ?_
  show AJ _ _ _ _ 0 [(0, .ref (p0)), (1, .int (x1)), (2, .int (x2)), (3, .int (x3))] [] _ _
  unfold gX7_opens
  refine aj_aload_n (0) dX7_opens_0 rfl rfl ?_
  refine aj_iload_n (1) dX7_opens_1 rfl rfl ?_
  refine r_putI (TX := TX7) zc7 (by decide) rfl rfl rfl rfl (Or.inl zg_355) dX7_opens_2 (fun M1 => ?_)
  refine aj_aload_n (0) dX7_opens_5 rfl rfl ?_
  refine aj_iload_n (2) dX7_opens_6 rfl rfl ?_
  refine r_putI (TX := TX7) zc7 (by decide) rfl rfl rfl rfl (Or.inl zg_340) dX7_opens_7 (fun M2 => ?_)
  refine aj_aload_n (0) dX7_opens_10 rfl rfl ?_
  refine aj_dup dX7_opens_11 rfl ?_
  refine r_getI (TX := TX7) zc7 (by decide) rfl (Or.inl zg_353) dX7_opens_12 (fun v3 => ?_)
  refine aj_iload_n (2) dX7_opens_15 rfl rfl ?_
  refine aj_iadd dX7_opens_16 ?_
  refine r_putI (TX := TX7) zc7 (by decide) rfl rfl rfl rfl (Or.inl zg_353) dX7_opens_17 (fun M4 => ?_)
  refine aj_aload_n (0) dX7_opens_20 rfl rfl ?_
  refine aj_getR (TX := TX7) zc7 (by decide) rfl (Or.inl zg_367) dX7_opens_21 (fun r5 => ?_)
  refine aj_iload_n (1) dX7_opens_24 rfl rfl ?_
  refine aj_iconst (v := (0 : Int32)) dX7_opens_25 (by decide) ?_
  refine aj_sipush (v := (999 : Int32)) dX7_opens_26 (by decide) ?_
  refine aj_aload_n (0) dX7_opens_29 rfl rfl ?_
  refine aj_getR (TX := TX7) zc7 (by decide) rfl (Or.inl zg_367) dX7_opens_30 (fun r6 => ?_)
  refine aj_iload_n (1) dX7_opens_33 rfl rfl ?_
  refine rV_I (as := [.int (x1)]) (c_X5_get w S _ _ _) mv_X5_get rfl zg_960 (by decide) (Nat.le_of_ble_eq_true rfl) dX7_opens_34 (fun v7 => ?_)
  refine aj_iload_n (3) dX7_opens_37 rfl rfl ?_
  refine aj_iadd dX7_opens_38 ?_
  refine aj_mmin zg_961 zg_663 zg_3 zg_664 (by decide) (Nat.le_of_ble_eq_true rfl) dX7_opens_39 ?_
  refine aj_mmax zg_962 zg_40 zg_3 zg_41 (by decide) (Nat.le_of_ble_eq_true rfl) dX7_opens_42 ?_
  refine rV_VM (as := [.int (x1), .int ((if (0 : Int32) < (if (v7 + x3) < (999 : Int32) then (v7 + x3) else (999 : Int32)) then (if (v7 + x3) < (999 : Int32) then (v7 + x3) else (999 : Int32)) else (0 : Int32)))]) (c_X5_set w S _ _ _ _) mv_X5_set rfl zg_963 (by decide) (Nat.le_of_ble_eq_true rfl) dX7_opens_45 (fun M8 => ?_)
  refine aj_aload_n (0) dX7_opens_48 rfl rfl ?_
  refine aj_getR (TX := TX7) zc7 (by decide) rfl (Or.inl zg_370) dX7_opens_49 (fun r9 => ?_)
  refine aj_iload_n (1) dX7_opens_52 rfl rfl ?_
  refine aj_sipush (v := (9999 : Int32)) dX7_opens_53 (by decide) ?_
  refine aj_aload_n (0) dX7_opens_56 rfl rfl ?_
  refine aj_getR (TX := TX7) zc7 (by decide) rfl (Or.inl zg_370) dX7_opens_57 (fun r10 => ?_)
  refine aj_iload_n (1) dX7_opens_60 rfl rfl ?_
  refine rV_I (as := [.int (x1)]) (c_X5_get w S _ _ _) mv_X5_get rfl zg_960 (by decide) (Nat.le_of_ble_eq_true rfl) dX7_opens_61 (fun v11 => ?_)
  refine aj_iconst (v := (1 : Int32)) dX7_opens_64 (by decide) ?_
  refine aj_iadd dX7_opens_65 ?_
  refine aj_mmin zg_961 zg_663 zg_3 zg_664 (by decide) (Nat.le_of_ble_eq_true rfl) dX7_opens_66 ?_
  refine rV_VM (as := [.int (x1), .int ((if (v11 + (1 : Int32)) < (9999 : Int32) then (v11 + (1 : Int32)) else (9999 : Int32)))]) (c_X5_set w S _ _ _ _) mv_X5_set rfl zg_963 (by decide) (Nat.le_of_ble_eq_true rfl) dX7_opens_69 (fun M12 => ?_)
  exact aj_vret dX7_opens_72 rfl rfl
def gX7_init (p0 : Nat) (S : List (Nat × Nat)) (M : zM) : Option zH := zpI S M (p0) 7 15 3 ((-1 : Int32)) (fun M1 => zpI S M1 (p0) 7 15 9 ((-1 : Int32)) (fun M2 => znew S M2 5 1 (fun S3 M4 r5 => zmk2 S3 (gX5_init (r5) ((12 : Int32)) S3 M4) (fun S6 M7 => zpR S6 M7 (p0) 7 15 11 (some (r5)) (fun M8 => znew S6 M8 5 1 (fun S9 M10 r11 => zmk2 S9 (gX5_init (r11) ((6 : Int32)) S9 M10) (fun S12 M13 => zpR S12 M13 (p0) 7 15 12 (some (r11)) (fun M14 => znew S12 M14 5 1 (fun S15 M16 r17 => zmk2 S15 (gX5_init (r17) ((6 : Int32)) S15 M16) (fun S18 M19 => zpR S18 M19 (p0) 7 15 13 (some (r17)) (fun M20 => znew S18 M20 5 1 (fun S21 M22 r23 => zmk2 S21 (gX5_init (r23) ((5 : Int32)) S21 M22) (fun S24 M25 => zpR S24 M25 (p0) 7 15 14 (some (r23)) (fun M26 => some (S24, M26)))))))))))))))
set_option maxHeartbeats 4000000 in
set_option maxRecDepth 100000 in
theorem c_X7_init (w : zWd) (hz : zSZ w) (hg : w.2.2.2.2.2 = 0) (p0 : Nat) (S : List (Nat × Nat)) (M : zM) : CT zfC w 3 mX7_init [.ref (p0)] (S, M) (gX7_init p0 S M) := by
  refine CT.of (by decide) (Nat.le_of_ble_eq_true rfl) ?_
  show AJ _ _ _ _ 0 [(0, .ref (p0))] [] _ _
  unfold gX7_init
  refine aj_aload_n (0) dX7_init_0 rfl rfl ?_
  refine aj_obj zg_324 zg_31 zg_32 (by decide) (Nat.le_of_ble_eq_true rfl) dX7_init_1 ?_
  refine aj_aload_n (0) dX7_init_4 rfl rfl ?_
  refine aj_iconst (v := (-1 : Int32)) dX7_init_5 (by decide) ?_
  refine r_putI (TX := TX7) zc7 (by decide) rfl rfl rfl rfl (Or.inl zg_335) dX7_init_6 (fun M1 => ?_)
  refine aj_aload_n (0) dX7_init_9 rfl rfl ?_
  refine aj_iconst (v := (-1 : Int32)) dX7_init_10 (by decide) ?_
  refine r_putI (TX := TX7) zc7 (by decide) rfl rfl rfl rfl (Or.inl zg_355) dX7_init_11 (fun M2 => ?_)
  refine aj_aload_n (0) dX7_init_14 rfl rfl ?_
  refine r_new (TX := TX5) hg zc5 zg_325 zg_34 zg_2 dX7_init_15 (fun S3 M4 r5 => ?_)
  refine aj_dup dX7_init_18 rfl ?_
  refine aj_bipush (v := (12 : Int32)) dX7_init_19 (by decide) ?_
  refine rC (as := [.int ((12 : Int32))]) hg (c_X5_init w hz hg _ _ _ _) mc_X5_init rfl (Or.inl zg_326) (by decide) (Nat.le_of_ble_eq_true rfl) dX7_init_21 (fun S6 M7 => ?_)
  refine r_putR (TX := TX7) zc7 (by decide) rfl (Or.inr ⟨rfl, rfl, rfl, zg_362⟩) (Or.inl zg_362) dX7_init_24 (fun M8 => ?_)
  refine aj_aload_n (0) dX7_init_27 rfl rfl ?_
  refine r_new (TX := TX5) hg zc5 zg_325 zg_34 zg_2 dX7_init_28 (fun S9 M10 r11 => ?_)
  refine aj_dup dX7_init_31 rfl ?_
  refine aj_bipush (v := (6 : Int32)) dX7_init_32 (by decide) ?_
  refine rC (as := [.int ((6 : Int32))]) hg (c_X5_init w hz hg _ _ _ _) mc_X5_init rfl (Or.inl zg_326) (by decide) (Nat.le_of_ble_eq_true rfl) dX7_init_34 (fun S12 M13 => ?_)
  refine r_putR (TX := TX7) zc7 (by decide) rfl (Or.inr ⟨rfl, rfl, rfl, zg_367⟩) (Or.inl zg_367) dX7_init_37 (fun M14 => ?_)
  refine aj_aload_n (0) dX7_init_40 rfl rfl ?_
  refine r_new (TX := TX5) hg zc5 zg_325 zg_34 zg_2 dX7_init_41 (fun S15 M16 r17 => ?_)
  refine aj_dup dX7_init_44 rfl ?_
  refine aj_bipush (v := (6 : Int32)) dX7_init_45 (by decide) ?_
  refine rC (as := [.int ((6 : Int32))]) hg (c_X5_init w hz hg _ _ _ _) mc_X5_init rfl (Or.inl zg_326) (by decide) (Nat.le_of_ble_eq_true rfl) dX7_init_47 (fun S18 M19 => ?_)
  refine r_putR (TX := TX7) zc7 (by decide) rfl (Or.inr ⟨rfl, rfl, rfl, zg_370⟩) (Or.inl zg_370) dX7_init_50 (fun M20 => ?_)
  refine aj_aload_n (0) dX7_init_53 rfl rfl ?_
  refine r_new (TX := TX5) hg zc5 zg_325 zg_34 zg_2 dX7_init_54 (fun S21 M22 r23 => ?_)
  refine aj_dup dX7_init_57 rfl ?_
  refine aj_iconst (v := (5 : Int32)) dX7_init_58 (by decide) ?_
  refine rC (as := [.int ((5 : Int32))]) hg (c_X5_init w hz hg _ _ _ _) mc_X5_init rfl (Or.inl zg_326) (by decide) (Nat.le_of_ble_eq_true rfl) dX7_init_59 (fun S24 M25 => ?_)
  refine r_putR (TX := TX7) zc7 (by decide) rfl (Or.inr ⟨rfl, rfl, rfl, zg_373⟩) (Or.inl zg_373) dX7_init_62 (fun M26 => ?_)
  exact aj_vret dX7_init_65 rfl rfl
def gX7_copy (S : List (Nat × Nat)) (p0 : Nat) (p1 : Nat) (M : zM) : Option zM := zgI S M (p1) 7 15 0 (fun v1 => zpI S M (p0) 7 15 0 (v1) (fun M2 => zgI S M2 (p1) 7 15 1 (fun v3 => zpI S M2 (p0) 7 15 1 (v3) (fun M4 => zgI S M4 (p1) 7 15 2 (fun v5 => zpI S M4 (p0) 7 15 2 (v5) (fun M6 => zgI S M6 (p1) 7 15 3 (fun v7 => zpI S M6 (p0) 7 15 3 (v7) (fun M8 => zgI S M8 (p1) 7 15 4 (fun v9 => zpI S M8 (p0) 7 15 4 (v9) (fun M10 => zgI S M10 (p1) 7 15 5 (fun v11 => zpI S M10 (p0) 7 15 5 (v11) (fun M12 => zgI S M12 (p1) 7 15 6 (fun v13 => zpI S M12 (p0) 7 15 6 (v13) (fun M14 => zgI S M14 (p1) 7 15 7 (fun v15 => zpI S M14 (p0) 7 15 7 (v15) (fun M16 => zgI S M16 (p1) 7 15 8 (fun v17 => zpI S M16 (p0) 7 15 8 (v17) (fun M18 => zgI S M18 (p1) 7 15 9 (fun v19 => zpI S M18 (p0) 7 15 9 (v19) (fun M20 => zgI S M20 (p1) 7 15 10 (fun v21 => zpI S M20 (p0) 7 15 10 (v21) (fun M22 => zgR S M22 (p0) 7 15 11 (fun r23 => zgR S M22 (p1) 7 15 11 (fun r24 => zrc S (r23) 5 1 ((gX5_copy S (r23) (r24) M22).bind (fun M25 => zgR S M25 (p0) 7 15 12 (fun r26 => zgR S M25 (p1) 7 15 12 (fun r27 => zrc S (r26) 5 1 ((gX5_copy S (r26) (r27) M25).bind (fun M28 => zgR S M28 (p0) 7 15 13 (fun r29 => zgR S M28 (p1) 7 15 13 (fun r30 => zrc S (r29) 5 1 ((gX5_copy S (r29) (r30) M28).bind (fun M31 => zgR S M31 (p0) 7 15 14 (fun r32 => zgR S M31 (p1) 7 15 14 (fun r33 => zrc S (r32) 5 1 ((gX5_copy S (r32) (r33) M31).bind (fun M34 => some M34))))))))))))))))))))))))))))))))))))))
set_option maxHeartbeats 4000000 in
set_option maxRecDepth 100000 in
theorem c_X7_copy (w : zWd) (S : List (Nat × Nat)) (p0 : Nat) (p1 : Nat) (M : zM) : CT (zfVM S) w 3 mX7_copy [.ref (p0), .ref (p1)] (S, M) (gX7_copy S p0 p1 M) := by
  refine CT.of (by decide) (Nat.le_of_ble_eq_true rfl) ?_
  show AJ _ _ _ _ 0 [(0, .ref (p0)), (1, .ref (p1))] [] _ _
  unfold gX7_copy
  refine aj_aload_n (0) dX7_copy_0 rfl rfl ?_
  refine aj_aload_n (1) dX7_copy_1 rfl rfl ?_
  refine r_getI (TX := TX7) zc7 (by decide) rfl (Or.inl zg_327) dX7_copy_2 (fun v1 => ?_)
  refine r_putI (TX := TX7) zc7 (by decide) rfl rfl rfl rfl (Or.inl zg_327) dX7_copy_5 (fun M2 => ?_)
  refine aj_aload_n (0) dX7_copy_8 rfl rfl ?_
  refine aj_aload_n (1) dX7_copy_9 rfl rfl ?_
  refine r_getI (TX := TX7) zc7 (by decide) rfl (Or.inl zg_330) dX7_copy_10 (fun v3 => ?_)
  refine r_putI (TX := TX7) zc7 (by decide) rfl rfl rfl rfl (Or.inl zg_330) dX7_copy_13 (fun M4 => ?_)
  refine aj_aload_n (0) dX7_copy_16 rfl rfl ?_
  refine aj_aload_n (1) dX7_copy_17 rfl rfl ?_
  refine r_getI (TX := TX7) zc7 (by decide) rfl (Or.inl zg_333) dX7_copy_18 (fun v5 => ?_)
  refine r_putI (TX := TX7) zc7 (by decide) rfl rfl rfl rfl (Or.inl zg_333) dX7_copy_21 (fun M6 => ?_)
  refine aj_aload_n (0) dX7_copy_24 rfl rfl ?_
  refine aj_aload_n (1) dX7_copy_25 rfl rfl ?_
  refine r_getI (TX := TX7) zc7 (by decide) rfl (Or.inl zg_335) dX7_copy_26 (fun v7 => ?_)
  refine r_putI (TX := TX7) zc7 (by decide) rfl rfl rfl rfl (Or.inl zg_335) dX7_copy_29 (fun M8 => ?_)
  refine aj_aload_n (0) dX7_copy_32 rfl rfl ?_
  refine aj_aload_n (1) dX7_copy_33 rfl rfl ?_
  refine r_getI (TX := TX7) zc7 (by decide) rfl (Or.inl zg_340) dX7_copy_34 (fun v9 => ?_)
  refine r_putI (TX := TX7) zc7 (by decide) rfl rfl rfl rfl (Or.inl zg_340) dX7_copy_37 (fun M10 => ?_)
  refine aj_aload_n (0) dX7_copy_40 rfl rfl ?_
  refine aj_aload_n (1) dX7_copy_41 rfl rfl ?_
  refine r_getI (TX := TX7) zc7 (by decide) rfl (Or.inl zg_343) dX7_copy_42 (fun v11 => ?_)
  refine r_putI (TX := TX7) zc7 (by decide) rfl rfl rfl rfl (Or.inl zg_343) dX7_copy_45 (fun M12 => ?_)
  refine aj_aload_n (0) dX7_copy_48 rfl rfl ?_
  refine aj_aload_n (1) dX7_copy_49 rfl rfl ?_
  refine r_getI (TX := TX7) zc7 (by decide) rfl (Or.inl zg_347) dX7_copy_50 (fun v13 => ?_)
  refine r_putI (TX := TX7) zc7 (by decide) rfl rfl rfl rfl (Or.inl zg_347) dX7_copy_53 (fun M14 => ?_)
  refine aj_aload_n (0) dX7_copy_56 rfl rfl ?_
  refine aj_aload_n (1) dX7_copy_57 rfl rfl ?_
  refine r_getI (TX := TX7) zc7 (by decide) rfl (Or.inl zg_350) dX7_copy_58 (fun v15 => ?_)
  refine r_putI (TX := TX7) zc7 (by decide) rfl rfl rfl rfl (Or.inl zg_350) dX7_copy_61 (fun M16 => ?_)
  refine aj_aload_n (0) dX7_copy_64 rfl rfl ?_
  refine aj_aload_n (1) dX7_copy_65 rfl rfl ?_
  refine r_getI (TX := TX7) zc7 (by decide) rfl (Or.inl zg_353) dX7_copy_66 (fun v17 => ?_)
  refine r_putI (TX := TX7) zc7 (by decide) rfl rfl rfl rfl (Or.inl zg_353) dX7_copy_69 (fun M18 => ?_)
  refine aj_aload_n (0) dX7_copy_72 rfl rfl ?_
  refine aj_aload_n (1) dX7_copy_73 rfl rfl ?_
  refine r_getI (TX := TX7) zc7 (by decide) rfl (Or.inl zg_355) dX7_copy_74 (fun v19 => ?_)
  refine r_putI (TX := TX7) zc7 (by decide) rfl rfl rfl rfl (Or.inl zg_355) dX7_copy_77 (fun M20 => ?_)
  refine aj_aload_n (0) dX7_copy_80 rfl rfl ?_
  refine aj_aload_n (1) dX7_copy_81 rfl rfl ?_
  refine r_getI (TX := TX7) zc7 (by decide) rfl (Or.inl zg_358) dX7_copy_82 (fun v21 => ?_)
  refine r_putI (TX := TX7) zc7 (by decide) rfl rfl rfl rfl (Or.inl zg_358) dX7_copy_85 (fun M22 => ?_)
  refine aj_aload_n (0) dX7_copy_88 rfl rfl ?_
  refine aj_getR (TX := TX7) zc7 (by decide) rfl (Or.inl zg_362) dX7_copy_89 (fun r23 => ?_)
  refine aj_aload_n (1) dX7_copy_92 rfl rfl ?_
  refine aj_getR (TX := TX7) zc7 (by decide) rfl (Or.inl zg_362) dX7_copy_93 (fun r24 => ?_)
  refine rV_VM (as := [.ref (r24)]) (c_X5_copy w S _ _ _) mv_X5_copy rfl zg_798 (by decide) (Nat.le_of_ble_eq_true rfl) dX7_copy_96 (fun M25 => ?_)
  refine aj_aload_n (0) dX7_copy_99 rfl rfl ?_
  refine aj_getR (TX := TX7) zc7 (by decide) rfl (Or.inl zg_367) dX7_copy_100 (fun r26 => ?_)
  refine aj_aload_n (1) dX7_copy_103 rfl rfl ?_
  refine aj_getR (TX := TX7) zc7 (by decide) rfl (Or.inl zg_367) dX7_copy_104 (fun r27 => ?_)
  refine rV_VM (as := [.ref (r27)]) (c_X5_copy w S _ _ _) mv_X5_copy rfl zg_798 (by decide) (Nat.le_of_ble_eq_true rfl) dX7_copy_107 (fun M28 => ?_)
  refine aj_aload_n (0) dX7_copy_110 rfl rfl ?_
  refine aj_getR (TX := TX7) zc7 (by decide) rfl (Or.inl zg_370) dX7_copy_111 (fun r29 => ?_)
  refine aj_aload_n (1) dX7_copy_114 rfl rfl ?_
  refine aj_getR (TX := TX7) zc7 (by decide) rfl (Or.inl zg_370) dX7_copy_115 (fun r30 => ?_)
  refine rV_VM (as := [.ref (r30)]) (c_X5_copy w S _ _ _) mv_X5_copy rfl zg_798 (by decide) (Nat.le_of_ble_eq_true rfl) dX7_copy_118 (fun M31 => ?_)
  refine aj_aload_n (0) dX7_copy_121 rfl rfl ?_
  refine aj_getR (TX := TX7) zc7 (by decide) rfl (Or.inl zg_373) dX7_copy_122 (fun r32 => ?_)
  refine aj_aload_n (1) dX7_copy_125 rfl rfl ?_
  refine aj_getR (TX := TX7) zc7 (by decide) rfl (Or.inl zg_373) dX7_copy_126 (fun r33 => ?_)
  refine rV_VM (as := [.ref (r33)]) (c_X5_copy w S _ _ _) mv_X5_copy rfl zg_798 (by decide) (Nat.le_of_ble_eq_true rfl) dX7_copy_129 (fun M34 => ?_)
  exact aj_vret dX7_copy_132 rfl rfl
def gX7_placesOf_4 (S : List (Nat × Nat)) : Nat → Nat → Int32 → Int32 → Int32 → zM → Option Int32
  | 0 => fun _ _ _ _ _ => none
  | n + 1 => fun p0 x1 x2 x3 M => zgI S M (p0) 7 15 10 (fun v1 => (if v1 ≤ x3 then some (x2) else zgR S M (p0) 7 15 11 (fun r2 => zrc S (r2) 5 1 ((gX5_get S (r2) (x3) M).bind (fun v3 => (if v3 = x1 then (gX7_placesOf_4 S   n) (p0) (x1) ((x2 + (1 : Int32))) ((x3 + (1 : Int32))) M else (gX7_placesOf_4 S   n) (p0) (x1) (x2) ((x3 + (1 : Int32))) M))))))
set_option maxHeartbeats 4000000 in
set_option maxRecDepth 100000 in
theorem t_X7_placesOf_4 (w : zWd) (S : List (Nat × Nat)) (fu : Nat) : ∀ (p0 : Nat) (x1 : Int32) (x2 : Int32) (x3 : Int32) (M : zM), AJ (zfI S M) w 2 mX7_placesOf 4 [(0, .ref (p0)), (1, .int (x1)), (2, .int (x2)), (3, .int (x3))] [] (S, M) (gX7_placesOf_4 S fu p0 x1 x2 x3 M) := by
  induction fu with
  | zero => intro p0 x1 x2 x3 M; exact AJ.none
  | succ n ih =>
    intro p0 x1 x2 x3 M
    unfold gX7_placesOf_4
    refine aj_iload_n (3) dX7_placesOf_4 rfl rfl ?_
    refine aj_aload_n (0) dX7_placesOf_5 rfl rfl ?_
    refine r_getI (TX := TX7) zc7 (by decide) rfl (Or.inl zg_358) dX7_placesOf_6 (fun v1 => ?_)
    refine aj_icmp_ge (tgt := 33) dX7_placesOf_9 (by decide) (fun h => ?_) (fun h => ?_)
    · refine aj_iload_n (2) dX7_placesOf_33 rfl rfl ?_
      exact aj_iret dX7_placesOf_34 rfl rfl rfl
    refine aj_aload_n (0) dX7_placesOf_12 rfl rfl ?_
    refine aj_getR (TX := TX7) zc7 (by decide) rfl (Or.inl zg_362) dX7_placesOf_13 (fun r2 => ?_)
    refine aj_iload_n (3) dX7_placesOf_16 rfl rfl ?_
    refine rV_I (as := [.int (x3)]) (c_X5_get w S _ _ _) mv_X5_get rfl zg_960 (by decide) (Nat.le_of_ble_eq_true rfl) dX7_placesOf_17 (fun v3 => ?_)
    refine aj_iload_n (1) dX7_placesOf_20 rfl rfl ?_
    refine aj_icmp_ne (tgt := 27) dX7_placesOf_21 (by decide) (fun h => ?_) (fun h => ?_)
    · refine aj_iinc (j := 3) (v := (x3 + (1 : Int32))) (ls2 := [(3, .int ((x3 + (1 : Int32)))), (0, .ref (p0)), (1, .int (x1)), (2, .int (x2))]) dX7_placesOf_27 rfl rfl (Nat.le_of_ble_eq_true rfl) rfl ?_
      refine aj_goto (tgt := 4) dX7_placesOf_30 (by decide) ?_
      refine AJ.sub [1, 2, 3, 0] rfl ?_
      exact ih (p0) (x1) (x2) ((x3 + (1 : Int32))) M
    refine aj_iinc (j := 2) (v := (x2 + (1 : Int32))) (ls2 := [(2, .int ((x2 + (1 : Int32)))), (0, .ref (p0)), (1, .int (x1)), (3, .int (x3))]) dX7_placesOf_24 rfl rfl (Nat.le_of_ble_eq_true rfl) rfl ?_
    refine aj_iinc (j := 3) (v := (x3 + (1 : Int32))) (ls2 := [(3, .int ((x3 + (1 : Int32)))), (2, .int ((x2 + (1 : Int32)))), (0, .ref (p0)), (1, .int (x1))]) dX7_placesOf_27 rfl rfl (Nat.le_of_ble_eq_true rfl) rfl ?_
    refine aj_goto (tgt := 4) dX7_placesOf_30 (by decide) ?_
    refine AJ.sub [2, 3, 1, 0] rfl ?_
    exact ih (p0) (x1) ((x2 + (1 : Int32))) ((x3 + (1 : Int32))) M
def gX7_placesOf (S : List (Nat × Nat)) (p0 : Nat) (x1 : Int32) (M : zM) : Option Int32 := gX7_placesOf_4 S zfu (p0) (x1) ((0 : Int32)) ((0 : Int32)) M
set_option maxHeartbeats 4000000 in
set_option maxRecDepth 100000 in
theorem c_X7_placesOf (w : zWd) (S : List (Nat × Nat)) (p0 : Nat) (x1 : Int32) (M : zM) : CT (zfI S M) w 2 mX7_placesOf [.ref (p0), .int (x1)] (S, M) (gX7_placesOf S p0 x1 M) := by
  refine CT.of (by decide) (Nat.le_of_ble_eq_true rfl) ?_
  show AJ _ _ _ _ 0 [(0, .ref (p0)), (1, .int (x1))] [] _ _
  unfold gX7_placesOf
  refine aj_iconst (v := (0 : Int32)) dX7_placesOf_0 (by decide) ?_
  refine aj_istore_n (ls2 := [(2, .int ((0 : Int32))), (0, .ref (p0)), (1, .int (x1))]) dX7_placesOf_1 rfl (Nat.le_of_ble_eq_true rfl) rfl ?_
  refine aj_iconst (v := (0 : Int32)) dX7_placesOf_2 (by decide) ?_
  refine aj_istore_n (ls2 := [(3, .int ((0 : Int32))), (2, .int ((0 : Int32))), (0, .ref (p0)), (1, .int (x1))]) dX7_placesOf_3 rfl (Nat.le_of_ble_eq_true rfl) rfl ?_
  refine AJ.sub [2, 3, 1, 0] rfl ?_
  exact t_X7_placesOf_4 w S zfu (p0) (x1) ((0 : Int32)) ((0 : Int32)) M
def gX7_starts (S : List (Nat × Nat)) (p0 : Nat) (p1 : Nat) (M : zM) : Option zM := zpI S M (p0) 7 15 0 ((0 : Int32)) (fun M1 => zpI S M1 (p0) 7 15 1 ((0 : Int32)) (fun M2 => zgI S M2 (p1) 10 18 16 (fun v3 => zpI S M2 (p0) 7 15 2 (v3) (fun M4 => zpI S M4 (p0) 7 15 3 ((-1 : Int32)) (fun M5 => zpI S M5 (p0) 7 15 4 ((0 : Int32)) (fun M6 => zgI S M6 (p1) 10 18 10 (fun v7 => zpI S M6 (p0) 7 15 5 (v7) (fun M8 => zpI S M8 (p0) 7 15 6 ((0 : Int32)) (fun M9 => zpI S M9 (p0) 7 15 7 ((0 : Int32)) (fun M10 => zpI S M10 (p0) 7 15 8 ((0 : Int32)) (fun M11 => zpI S M11 (p0) 7 15 9 ((-1 : Int32)) (fun M12 => zgI S M12 (p1) 10 18 5 (fun v13 => zpI S M12 (p0) 7 15 10 (v13) (fun M14 => zgR S M14 (p0) 7 15 11 (fun r15 => zgR S M14 (p1) 10 18 6 (fun r16 => zrc S (r15) 5 1 ((gX5_copy S (r15) (r16) M14).bind (fun M17 => zgR S M17 (p0) 7 15 12 (fun r18 => zrc S (r18) 5 1 ((gX5_fill S (r18) ((0 : Int32)) M17).bind (fun M19 => zgR S M19 (p0) 7 15 13 (fun r20 => zrc S (r20) 5 1 ((gX5_fill S (r20) ((0 : Int32)) M19).bind (fun M21 => zgR S M21 (p0) 7 15 14 (fun r22 => zrc S (r22) 5 1 ((gX5_fill S (r22) ((0 : Int32)) M21).bind (fun M23 => some M23)))))))))))))))))))))))))))
set_option maxHeartbeats 4000000 in
set_option maxRecDepth 100000 in
theorem c_X7_starts (w : zWd) (S : List (Nat × Nat)) (p0 : Nat) (p1 : Nat) (M : zM) : CT (zfVM S) w 3 mX7_starts [.ref (p0), .ref (p1)] (S, M) (gX7_starts S p0 p1 M) := by
  refine CT.of (by decide) (Nat.le_of_ble_eq_true rfl) ?_
  show AJ _ _ _ _ 0 [(0, .ref (p0)), (1, .ref (p1))] [] _ _
  unfold gX7_starts
  refine aj_aload_n (0) dX7_starts_0 rfl rfl ?_
  refine aj_iconst (v := (0 : Int32)) dX7_starts_1 (by decide) ?_
  refine r_putI (TX := TX7) zc7 (by decide) rfl rfl rfl rfl (Or.inl zg_327) dX7_starts_2 (fun M1 => ?_)
  refine aj_aload_n (0) dX7_starts_5 rfl rfl ?_
  refine aj_iconst (v := (0 : Int32)) dX7_starts_6 (by decide) ?_
  refine r_putI (TX := TX7) zc7 (by decide) rfl rfl rfl rfl (Or.inl zg_330) dX7_starts_7 (fun M2 => ?_)
  refine aj_aload_n (0) dX7_starts_10 rfl rfl ?_
  refine aj_aload_n (1) dX7_starts_11 rfl rfl ?_
  refine r_getI (TX := TX10) zc10 (by decide) rfl (Or.inr ⟨_, zn_238⟩) dX7_starts_12 (fun v3 => ?_)
  refine r_putI (TX := TX7) zc7 (by decide) rfl rfl rfl rfl (Or.inl zg_333) dX7_starts_15 (fun M4 => ?_)
  refine aj_aload_n (0) dX7_starts_18 rfl rfl ?_
  refine aj_iconst (v := (-1 : Int32)) dX7_starts_19 (by decide) ?_
  refine r_putI (TX := TX7) zc7 (by decide) rfl rfl rfl rfl (Or.inl zg_335) dX7_starts_20 (fun M5 => ?_)
  refine aj_aload_n (0) dX7_starts_23 rfl rfl ?_
  refine aj_iconst (v := (0 : Int32)) dX7_starts_24 (by decide) ?_
  refine r_putI (TX := TX7) zc7 (by decide) rfl rfl rfl rfl (Or.inl zg_340) dX7_starts_25 (fun M6 => ?_)
  refine aj_aload_n (0) dX7_starts_28 rfl rfl ?_
  refine aj_aload_n (1) dX7_starts_29 rfl rfl ?_
  refine r_getI (TX := TX10) zc10 (by decide) rfl (Or.inr ⟨_, zn_213⟩) dX7_starts_30 (fun v7 => ?_)
  refine r_putI (TX := TX7) zc7 (by decide) rfl rfl rfl rfl (Or.inl zg_343) dX7_starts_33 (fun M8 => ?_)
  refine aj_aload_n (0) dX7_starts_36 rfl rfl ?_
  refine aj_iconst (v := (0 : Int32)) dX7_starts_37 (by decide) ?_
  refine r_putI (TX := TX7) zc7 (by decide) rfl rfl rfl rfl (Or.inl zg_347) dX7_starts_38 (fun M9 => ?_)
  refine aj_aload_n (0) dX7_starts_41 rfl rfl ?_
  refine aj_iconst (v := (0 : Int32)) dX7_starts_42 (by decide) ?_
  refine r_putI (TX := TX7) zc7 (by decide) rfl rfl rfl rfl (Or.inl zg_350) dX7_starts_43 (fun M10 => ?_)
  refine aj_aload_n (0) dX7_starts_46 rfl rfl ?_
  refine aj_iconst (v := (0 : Int32)) dX7_starts_47 (by decide) ?_
  refine r_putI (TX := TX7) zc7 (by decide) rfl rfl rfl rfl (Or.inl zg_353) dX7_starts_48 (fun M11 => ?_)
  refine aj_aload_n (0) dX7_starts_51 rfl rfl ?_
  refine aj_iconst (v := (-1 : Int32)) dX7_starts_52 (by decide) ?_
  refine r_putI (TX := TX7) zc7 (by decide) rfl rfl rfl rfl (Or.inl zg_355) dX7_starts_53 (fun M12 => ?_)
  refine aj_aload_n (0) dX7_starts_56 rfl rfl ?_
  refine aj_aload_n (1) dX7_starts_57 rfl rfl ?_
  refine r_getI (TX := TX10) zc10 (by decide) rfl (Or.inr ⟨_, zn_200⟩) dX7_starts_58 (fun v13 => ?_)
  refine r_putI (TX := TX7) zc7 (by decide) rfl rfl rfl rfl (Or.inl zg_358) dX7_starts_61 (fun M14 => ?_)
  refine aj_aload_n (0) dX7_starts_64 rfl rfl ?_
  refine aj_getR (TX := TX7) zc7 (by decide) rfl (Or.inl zg_362) dX7_starts_65 (fun r15 => ?_)
  refine aj_aload_n (1) dX7_starts_68 rfl rfl ?_
  refine aj_getR (TX := TX10) zc10 (by decide) rfl (Or.inr ⟨_, zn_203⟩) dX7_starts_69 (fun r16 => ?_)
  refine rV_VM (as := [.ref (r16)]) (c_X5_copy w S _ _ _) mv_X5_copy rfl zg_798 (by decide) (Nat.le_of_ble_eq_true rfl) dX7_starts_72 (fun M17 => ?_)
  refine aj_aload_n (0) dX7_starts_75 rfl rfl ?_
  refine aj_getR (TX := TX7) zc7 (by decide) rfl (Or.inl zg_367) dX7_starts_76 (fun r18 => ?_)
  refine aj_iconst (v := (0 : Int32)) dX7_starts_79 (by decide) ?_
  refine rV_VM (as := [.int ((0 : Int32))]) (c_X5_fill w S _ _ _) mv_X5_fill rfl zg_806 (by decide) (Nat.le_of_ble_eq_true rfl) dX7_starts_80 (fun M19 => ?_)
  refine aj_aload_n (0) dX7_starts_83 rfl rfl ?_
  refine aj_getR (TX := TX7) zc7 (by decide) rfl (Or.inl zg_370) dX7_starts_84 (fun r20 => ?_)
  refine aj_iconst (v := (0 : Int32)) dX7_starts_87 (by decide) ?_
  refine rV_VM (as := [.int ((0 : Int32))]) (c_X5_fill w S _ _ _) mv_X5_fill rfl zg_806 (by decide) (Nat.le_of_ble_eq_true rfl) dX7_starts_88 (fun M21 => ?_)
  refine aj_aload_n (0) dX7_starts_91 rfl rfl ?_
  refine aj_getR (TX := TX7) zc7 (by decide) rfl (Or.inl zg_373) dX7_starts_92 (fun r22 => ?_)
  refine aj_iconst (v := (0 : Int32)) dX7_starts_95 (by decide) ?_
  refine rV_VM (as := [.int ((0 : Int32))]) (c_X5_fill w S _ _ _) mv_X5_fill rfl zg_806 (by decide) (Nat.le_of_ble_eq_true rfl) dX7_starts_96 (fun M23 => ?_)
  exact aj_vret dX7_starts_99 rfl rfl
def gX7_hasPlace (S : List (Nat × Nat)) (p0 : Nat) (x1 : Int32) (M : zM) : Option Int32 := (if x1 < 0 then some ((0 : Int32)) else zgI S M (p0) 7 15 10 (fun v1 => (if v1 ≤ x1 then some ((0 : Int32)) else some ((1 : Int32)))))
set_option maxHeartbeats 4000000 in
set_option maxRecDepth 100000 in
theorem c_X7_hasPlace (w : zWd) (S : List (Nat × Nat)) (p0 : Nat) (x1 : Int32) (M : zM) : CT (zfI S M) w 1 mX7_hasPlace [.ref (p0), .int (x1)] (S, M) (gX7_hasPlace S p0 x1 M) := by
  refine CT.of (by decide) (Nat.le_of_ble_eq_true rfl) ?_
  show AJ _ _ _ _ 0 [(0, .ref (p0)), (1, .int (x1))] [] _ _
  unfold gX7_hasPlace
  refine aj_iload_n (1) dX7_hasPlace_0 rfl rfl ?_
  refine aj_if_lt (tgt := 16) dX7_hasPlace_1 (by decide) (fun h => ?_) (fun h => ?_)
  · refine aj_iconst (v := (0 : Int32)) dX7_hasPlace_16 (by decide) ?_
    exact aj_iret dX7_hasPlace_17 rfl (by decide +kernel) rfl
  refine aj_iload_n (1) dX7_hasPlace_4 rfl rfl ?_
  refine aj_aload_n (0) dX7_hasPlace_5 rfl rfl ?_
  refine r_getI (TX := TX7) zc7 (by decide) rfl (Or.inl zg_358) dX7_hasPlace_6 (fun v1 => ?_)
  refine aj_icmp_ge (tgt := 16) dX7_hasPlace_9 (by decide) (fun h => ?_) (fun h => ?_)
  · refine aj_iconst (v := (0 : Int32)) dX7_hasPlace_16 (by decide) ?_
    exact aj_iret dX7_hasPlace_17 rfl (by decide +kernel) rfl
  refine aj_iconst (v := (1 : Int32)) dX7_hasPlace_12 (by decide) ?_
  refine aj_goto (tgt := 17) dX7_hasPlace_13 (by decide) ?_
  exact aj_iret dX7_hasPlace_17 rfl (by decide +kernel) rfl
