/-! DayOpenersModel: functions of its methods and their contracts: written by wip/whole/gen/dec.py -/
def gX12_starts_132 (S : List (Nat × Nat)) : Nat → Nat → Int32 → Int32 → zM → Option zM
  | 0 => fun _ _ _ _ => none
  | n + 1 => fun p0 x1 x2 M => (if (5 : Int32) ≤ x2 then some M else zgR S M (p0) 12 66 44 (fun r1 => zbI S M (r1) ((((5 : Int32) * x1) + x2)) ((0 : Int32)) (fun M2 => (gX12_starts_132 S   n) (p0) (x1) ((x2 + (1 : Int32))) M2)))
set_option maxHeartbeats 4000000 in
set_option maxRecDepth 100000 in
theorem t_X12_starts_132 (w : zWd) (S : List (Nat × Nat)) (fu : Nat) : ∀ (p0 : Nat) (x1 : Int32) (x2 : Int32) (M : zM), AJ (zfVM S) w 1 mX12_starts 132 [(0, .ref (p0)), (1, .int (x1)), (2, .int (x2))] [] (S, M) (gX12_starts_132 S fu p0 x1 x2 M) := by
  induction fu with
  | zero => intro p0 x1 x2 M; exact AJ.none
  | succ n ih =>
    intro p0 x1 x2 M
    unfold gX12_starts_132
    refine aj_iload_n (2) dX12_starts_132 rfl rfl ?_
    refine aj_iconst (v := (5 : Int32)) dX12_starts_133 (by decide) ?_
    refine aj_icmp_ge (tgt := 154) dX12_starts_134 (by decide) (fun h => ?_) (fun h => ?_)
    · exact aj_vret dX12_starts_154 rfl rfl
    refine aj_aload_n (0) dX12_starts_137 rfl rfl ?_
    refine aj_getR (TX := TX12) zc12 (by decide) rfl (Or.inl zg_1394) dX12_starts_138 (fun r1 => ?_)
    refine aj_iconst (v := (5 : Int32)) dX12_starts_141 (by decide) ?_
    refine aj_iload_n (1) dX12_starts_142 rfl rfl ?_
    refine aj_imul dX12_starts_143 ?_
    refine aj_iload_n (2) dX12_starts_144 rfl rfl ?_
    refine aj_iadd dX12_starts_145 ?_
    refine aj_iconst (v := (0 : Int32)) dX12_starts_146 (by decide) ?_
    refine r_iast dX12_starts_147 (fun M2 => ?_)
    refine aj_iinc (j := 2) (v := (x2 + (1 : Int32))) (ls2 := [(2, .int ((x2 + (1 : Int32)))), (0, .ref (p0)), (1, .int (x1))]) dX12_starts_148 rfl rfl (Nat.le_of_ble_eq_true rfl) rfl ?_
    refine aj_goto (tgt := 132) dX12_starts_151 (by decide) ?_
    refine AJ.sub [1, 2, 0] rfl ?_
    exact ih (p0) (x1) ((x2 + (1 : Int32))) M2
def gX12_starts_101 (S : List (Nat × Nat)) : Nat → Nat → Int32 → Int32 → zM → Option zM
  | 0 => fun _ _ _ _ => none
  | n + 1 => fun p0 x1 x2 M => (if (12 : Int32) ≤ x2 then gX12_starts_132 S zfu (p0) (x1) ((0 : Int32)) M else zgR S M (p0) 12 66 43 (fun r1 => zgR S M (p0) 12 66 7 (fun r2 => zaI S M 100 (r2) (x2) (fun v3 => zbI S M (r1) ((((12 : Int32) * x1) + x2)) (v3) (fun M4 => (gX12_starts_101 S   n) (p0) (x1) ((x2 + (1 : Int32))) M4)))))
set_option maxHeartbeats 4000000 in
set_option maxRecDepth 100000 in
theorem t_X12_starts_101 (w : zWd) (S : List (Nat × Nat)) (fu : Nat) : ∀ (p0 : Nat) (x1 : Int32) (x2 : Int32) (M : zM), AJ (zfVM S) w 1 mX12_starts 101 [(0, .ref (p0)), (1, .int (x1)), (2, .int (x2))] [] (S, M) (gX12_starts_101 S fu p0 x1 x2 M) := by
  induction fu with
  | zero => intro p0 x1 x2 M; exact AJ.none
  | succ n ih =>
    intro p0 x1 x2 M
    unfold gX12_starts_101
    refine aj_iload_n (2) dX12_starts_101 rfl rfl ?_
    refine aj_bipush (v := (12 : Int32)) dX12_starts_102 (by decide) ?_
    refine aj_icmp_ge (tgt := 130) dX12_starts_104 (by decide) (fun h => ?_) (fun h => ?_)
    · refine aj_iconst (v := (0 : Int32)) dX12_starts_130 (by decide) ?_
      refine aj_istore_n (ls2 := [(2, .int ((0 : Int32))), (0, .ref (p0)), (1, .int (x1))]) dX12_starts_131 rfl (Nat.le_of_ble_eq_true rfl) rfl ?_
      refine AJ.sub [1, 2, 0] rfl ?_
      exact t_X12_starts_132 w S zfu (p0) (x1) ((0 : Int32)) M
    refine aj_aload_n (0) dX12_starts_107 rfl rfl ?_
    refine aj_getR (TX := TX12) zc12 (by decide) rfl (Or.inl zg_1393) dX12_starts_108 (fun r1 => ?_)
    refine aj_bipush (v := (12 : Int32)) dX12_starts_111 (by decide) ?_
    refine aj_iload_n (1) dX12_starts_113 rfl rfl ?_
    refine aj_imul dX12_starts_114 ?_
    refine aj_iload_n (2) dX12_starts_115 rfl rfl ?_
    refine aj_iadd dX12_starts_116 ?_
    refine aj_aload_n (0) dX12_starts_117 rfl rfl ?_
    refine aj_getR (TX := TX12) zc12 (by decide) rfl (Or.inl zg_1357) dX12_starts_118 (fun r2 => ?_)
    refine aj_iload_n (2) dX12_starts_121 rfl rfl ?_
    refine r_iald dX12_starts_122 (fun v3 => ?_)
    refine r_iast dX12_starts_123 (fun M4 => ?_)
    refine aj_iinc (j := 2) (v := (x2 + (1 : Int32))) (ls2 := [(2, .int ((x2 + (1 : Int32)))), (0, .ref (p0)), (1, .int (x1))]) dX12_starts_124 rfl rfl (Nat.le_of_ble_eq_true rfl) rfl ?_
    refine aj_goto (tgt := 101) dX12_starts_127 (by decide) ?_
    refine AJ.sub [1, 2, 0] rfl ?_
    exact ih (p0) (x1) ((x2 + (1 : Int32))) M4
def gX12_starts_63 (S : List (Nat × Nat)) : Nat → Nat → Int32 → Int32 → zM → Option zM
  | 0 => fun _ _ _ _ => none
  | n + 1 => fun p0 x1 x2 M => (if (6 : Int32) ≤ x2 then gX12_starts_101 S zfu (p0) (x1) ((0 : Int32)) M else zgR S M (p0) 12 66 41 (fun r1 => zbI S M (r1) ((((6 : Int32) * x1) + x2)) ((0 : Int32)) (fun M2 => zgR S M2 (p0) 12 66 42 (fun r3 => zbI S M2 (r3) ((((6 : Int32) * x1) + x2)) ((0 : Int32)) (fun M4 => (gX12_starts_63 S   n) (p0) (x1) ((x2 + (1 : Int32))) M4)))))
set_option maxHeartbeats 4000000 in
set_option maxRecDepth 100000 in
theorem t_X12_starts_63 (w : zWd) (S : List (Nat × Nat)) (fu : Nat) : ∀ (p0 : Nat) (x1 : Int32) (x2 : Int32) (M : zM), AJ (zfVM S) w 1 mX12_starts 63 [(0, .ref (p0)), (1, .int (x1)), (2, .int (x2))] [] (S, M) (gX12_starts_63 S fu p0 x1 x2 M) := by
  induction fu with
  | zero => intro p0 x1 x2 M; exact AJ.none
  | succ n ih =>
    intro p0 x1 x2 M
    unfold gX12_starts_63
    refine aj_iload_n (2) dX12_starts_63 rfl rfl ?_
    refine aj_bipush (v := (6 : Int32)) dX12_starts_64 (by decide) ?_
    refine aj_icmp_ge (tgt := 99) dX12_starts_66 (by decide) (fun h => ?_) (fun h => ?_)
    · refine aj_iconst (v := (0 : Int32)) dX12_starts_99 (by decide) ?_
      refine aj_istore_n (ls2 := [(2, .int ((0 : Int32))), (0, .ref (p0)), (1, .int (x1))]) dX12_starts_100 rfl (Nat.le_of_ble_eq_true rfl) rfl ?_
      refine AJ.sub [1, 2, 0] rfl ?_
      exact t_X12_starts_101 w S zfu (p0) (x1) ((0 : Int32)) M
    refine aj_aload_n (0) dX12_starts_69 rfl rfl ?_
    refine aj_getR (TX := TX12) zc12 (by decide) rfl (Or.inl zg_1391) dX12_starts_70 (fun r1 => ?_)
    refine aj_bipush (v := (6 : Int32)) dX12_starts_73 (by decide) ?_
    refine aj_iload_n (1) dX12_starts_75 rfl rfl ?_
    refine aj_imul dX12_starts_76 ?_
    refine aj_iload_n (2) dX12_starts_77 rfl rfl ?_
    refine aj_iadd dX12_starts_78 ?_
    refine aj_iconst (v := (0 : Int32)) dX12_starts_79 (by decide) ?_
    refine r_iast dX12_starts_80 (fun M2 => ?_)
    refine aj_aload_n (0) dX12_starts_81 rfl rfl ?_
    refine aj_getR (TX := TX12) zc12 (by decide) rfl (Or.inl zg_1392) dX12_starts_82 (fun r3 => ?_)
    refine aj_bipush (v := (6 : Int32)) dX12_starts_85 (by decide) ?_
    refine aj_iload_n (1) dX12_starts_87 rfl rfl ?_
    refine aj_imul dX12_starts_88 ?_
    refine aj_iload_n (2) dX12_starts_89 rfl rfl ?_
    refine aj_iadd dX12_starts_90 ?_
    refine aj_iconst (v := (0 : Int32)) dX12_starts_91 (by decide) ?_
    refine r_iast dX12_starts_92 (fun M4 => ?_)
    refine aj_iinc (j := 2) (v := (x2 + (1 : Int32))) (ls2 := [(2, .int ((x2 + (1 : Int32)))), (0, .ref (p0)), (1, .int (x1))]) dX12_starts_93 rfl rfl (Nat.le_of_ble_eq_true rfl) rfl ?_
    refine aj_goto (tgt := 63) dX12_starts_96 (by decide) ?_
    refine AJ.sub [1, 2, 0] rfl ?_
    exact ih (p0) (x1) ((x2 + (1 : Int32))) M4
def gX12_starts (S : List (Nat × Nat)) (p0 : Nat) (x1 : Int32) (M : zM) : Option zM := zgR S M (p0) 12 66 33 (fun r1 => zbI S M (r1) (x1) ((0 : Int32)) (fun M2 => zgR S M2 (p0) 12 66 34 (fun r3 => zgR S M2 (p0) 12 66 3 (fun r4 => zaI S M2 100 (r4) ((5 : Int32)) (fun v5 => zbI S M2 (r3) (x1) (v5) (fun M6 => zgR S M6 (p0) 12 66 35 (fun r7 => zbI S M6 (r7) (x1) ((0 : Int32)) (fun M8 => zgR S M8 (p0) 12 66 36 (fun r9 => zbI S M8 (r9) (x1) ((-1 : Int32)) (fun M10 => zgR S M10 (p0) 12 66 37 (fun r11 => zbI S M10 (r11) (x1) ((0 : Int32)) (fun M12 => zgR S M12 (p0) 12 66 38 (fun r13 => zbI S M12 (r13) (x1) ((0 : Int32)) (fun M14 => zgR S M14 (p0) 12 66 39 (fun r15 => zbI S M14 (r15) (x1) ((0 : Int32)) (fun M16 => zgR S M16 (p0) 12 66 40 (fun r17 => zbI S M16 (r17) (x1) ((-1 : Int32)) (fun M18 => gX12_starts_63 S zfu (p0) (x1) ((0 : Int32)) M18))))))))))))))))))
set_option maxHeartbeats 4000000 in
set_option maxRecDepth 100000 in
theorem c_X12_starts (w : zWd) (S : List (Nat × Nat)) (p0 : Nat) (x1 : Int32) (M : zM) : CT (zfVM S) w 1 mX12_starts [.ref (p0), .int (x1)] (S, M) (gX12_starts S p0 x1 M) := by
  refine CT.of (by decide) (Nat.le_of_ble_eq_true rfl) ?_
  show AJ _ _ _ _ 0 [(0, .ref (p0)), (1, .int (x1))] [] _ _
  unfold gX12_starts
  refine aj_aload_n (0) dX12_starts_0 rfl rfl ?_
  refine aj_getR (TX := TX12) zc12 (by decide) rfl (Or.inl zg_1383) dX12_starts_1 (fun r1 => ?_)
  refine aj_iload_n (1) dX12_starts_4 rfl rfl ?_
  refine aj_iconst (v := (0 : Int32)) dX12_starts_5 (by decide) ?_
  refine r_iast dX12_starts_6 (fun M2 => ?_)
  refine aj_aload_n (0) dX12_starts_7 rfl rfl ?_
  refine aj_getR (TX := TX12) zc12 (by decide) rfl (Or.inl zg_1384) dX12_starts_8 (fun r3 => ?_)
  refine aj_iload_n (1) dX12_starts_11 rfl rfl ?_
  refine aj_aload_n (0) dX12_starts_12 rfl rfl ?_
  refine aj_getR (TX := TX12) zc12 (by decide) rfl (Or.inl zg_1353) dX12_starts_13 (fun r4 => ?_)
  refine aj_iconst (v := (5 : Int32)) dX12_starts_16 (by decide) ?_
  refine r_iald dX12_starts_17 (fun v5 => ?_)
  refine r_iast dX12_starts_18 (fun M6 => ?_)
  refine aj_aload_n (0) dX12_starts_19 rfl rfl ?_
  refine aj_getR (TX := TX12) zc12 (by decide) rfl (Or.inl zg_1385) dX12_starts_20 (fun r7 => ?_)
  refine aj_iload_n (1) dX12_starts_23 rfl rfl ?_
  refine aj_iconst (v := (0 : Int32)) dX12_starts_24 (by decide) ?_
  refine r_iast dX12_starts_25 (fun M8 => ?_)
  refine aj_aload_n (0) dX12_starts_26 rfl rfl ?_
  refine aj_getR (TX := TX12) zc12 (by decide) rfl (Or.inl zg_1386) dX12_starts_27 (fun r9 => ?_)
  refine aj_iload_n (1) dX12_starts_30 rfl rfl ?_
  refine aj_iconst (v := (-1 : Int32)) dX12_starts_31 (by decide) ?_
  refine r_iast dX12_starts_32 (fun M10 => ?_)
  refine aj_aload_n (0) dX12_starts_33 rfl rfl ?_
  refine aj_getR (TX := TX12) zc12 (by decide) rfl (Or.inl zg_1387) dX12_starts_34 (fun r11 => ?_)
  refine aj_iload_n (1) dX12_starts_37 rfl rfl ?_
  refine aj_iconst (v := (0 : Int32)) dX12_starts_38 (by decide) ?_
  refine r_iast dX12_starts_39 (fun M12 => ?_)
  refine aj_aload_n (0) dX12_starts_40 rfl rfl ?_
  refine aj_getR (TX := TX12) zc12 (by decide) rfl (Or.inl zg_1388) dX12_starts_41 (fun r13 => ?_)
  refine aj_iload_n (1) dX12_starts_44 rfl rfl ?_
  refine aj_iconst (v := (0 : Int32)) dX12_starts_45 (by decide) ?_
  refine r_iast dX12_starts_46 (fun M14 => ?_)
  refine aj_aload_n (0) dX12_starts_47 rfl rfl ?_
  refine aj_getR (TX := TX12) zc12 (by decide) rfl (Or.inl zg_1389) dX12_starts_48 (fun r15 => ?_)
  refine aj_iload_n (1) dX12_starts_51 rfl rfl ?_
  refine aj_iconst (v := (0 : Int32)) dX12_starts_52 (by decide) ?_
  refine r_iast dX12_starts_53 (fun M16 => ?_)
  refine aj_aload_n (0) dX12_starts_54 rfl rfl ?_
  refine aj_getR (TX := TX12) zc12 (by decide) rfl (Or.inl zg_1390) dX12_starts_55 (fun r17 => ?_)
  refine aj_iload_n (1) dX12_starts_58 rfl rfl ?_
  refine aj_iconst (v := (-1 : Int32)) dX12_starts_59 (by decide) ?_
  refine r_iast dX12_starts_60 (fun M18 => ?_)
  refine aj_iconst (v := (0 : Int32)) dX12_starts_61 (by decide) ?_
  refine aj_istore_n (ls2 := [(2, .int ((0 : Int32))), (0, .ref (p0)), (1, .int (x1))]) dX12_starts_62 rfl (Nat.le_of_ble_eq_true rfl) rfl ?_
  refine AJ.sub [1, 2, 0] rfl ?_
  exact t_X12_starts_63 w S zfu (p0) (x1) ((0 : Int32)) M18
def gX12_begins_11 (S : List (Nat × Nat)) : Nat → Nat → Int32 → zM → Option zM
  | 0 => fun _ _ _ => none
  | n + 1 => fun p0 x1 M => (if (100 : Int32) ≤ x1 then zrc S (p0) 12 66 ((gX12_starts S (p0) ((0 : Int32)) M).bind (fun M1 => some M1)) else zgR S M (p0) 12 66 8 (fun r2 => zbI S M (r2) (x1) ((-1 : Int32)) (fun M3 => (gX12_begins_11 S   n) (p0) ((x1 + (1 : Int32))) M3)))
set_option maxHeartbeats 4000000 in
set_option maxRecDepth 100000 in
theorem t_X12_begins_11 (w : zWd) (S : List (Nat × Nat)) (fu : Nat) : ∀ (p0 : Nat) (x1 : Int32) (M : zM), AJ (zfVM S) w 2 mX12_begins 11 [(0, .ref (p0)), (1, .int (x1))] [] (S, M) (gX12_begins_11 S fu p0 x1 M) := by
  induction fu with
  | zero => intro p0 x1 M; exact AJ.none
  | succ n ih =>
    intro p0 x1 M
    unfold gX12_begins_11
    refine aj_iload_n (1) dX12_begins_11 rfl rfl ?_
    refine aj_bipush (v := (100 : Int32)) dX12_begins_12 (by decide) ?_
    refine aj_icmp_ge (tgt := 30) dX12_begins_14 (by decide) (fun h => ?_) (fun h => ?_)
    · refine aj_aload_n (0) dX12_begins_30 rfl rfl ?_
      refine aj_iconst (v := (0 : Int32)) dX12_begins_31 (by decide) ?_
      refine rV_VM (as := [.int ((0 : Int32))]) (c_X12_starts w S _ _ _) mv_X12_starts rfl zg_1346 (by decide) (Nat.le_of_ble_eq_true rfl) dX12_begins_32 (fun M1 => ?_)
      exact aj_vret dX12_begins_35 rfl rfl
    refine aj_aload_n (0) dX12_begins_17 rfl rfl ?_
    refine aj_getR (TX := TX12) zc12 (by decide) rfl (Or.inl zg_1358) dX12_begins_18 (fun r2 => ?_)
    refine aj_iload_n (1) dX12_begins_21 rfl rfl ?_
    refine aj_iconst (v := (-1 : Int32)) dX12_begins_22 (by decide) ?_
    refine r_iast dX12_begins_23 (fun M3 => ?_)
    refine aj_iinc (j := 1) (v := (x1 + (1 : Int32))) (ls2 := [(1, .int ((x1 + (1 : Int32)))), (0, .ref (p0))]) dX12_begins_24 rfl rfl (Nat.le_of_ble_eq_true rfl) rfl ?_
    refine aj_goto (tgt := 11) dX12_begins_27 (by decide) ?_
    refine AJ.sub [1, 0] rfl ?_
    exact ih (p0) ((x1 + (1 : Int32))) M3
def gX12_begins (S : List (Nat × Nat)) (p0 : Nat) (M : zM) : Option zM := zgR S M (p0) 12 66 3 (fun r1 => zaI S M 100 (r1) ((2 : Int32)) (fun v2 => (if v2 = 0 then gX12_begins_11 S zfu (p0) ((0 : Int32)) M else zrc S (p0) 12 66 ((gX12_starts S (p0) ((0 : Int32)) M).bind (fun M3 => some M3)))))
set_option maxHeartbeats 4000000 in
set_option maxRecDepth 100000 in
theorem c_X12_begins (w : zWd) (S : List (Nat × Nat)) (p0 : Nat) (M : zM) : CT (zfVM S) w 2 mX12_begins [.ref (p0)] (S, M) (gX12_begins S p0 M) := by
  refine CT.of (by decide) (Nat.le_of_ble_eq_true rfl) ?_
  show AJ _ _ _ _ 0 [(0, .ref (p0))] [] _ _
  unfold gX12_begins
  refine aj_aload_n (0) dX12_begins_0 rfl rfl ?_
  refine aj_getR (TX := TX12) zc12 (by decide) rfl (Or.inl zg_1353) dX12_begins_1 (fun r1 => ?_)
  refine aj_iconst (v := (2 : Int32)) dX12_begins_4 (by decide) ?_
  refine r_iald dX12_begins_5 (fun v2 => ?_)
  refine aj_if_ne (tgt := 30) dX12_begins_6 (by decide) (fun h => ?_) (fun h => ?_)
  · refine aj_aload_n (0) dX12_begins_30 rfl rfl ?_
    refine aj_iconst (v := (0 : Int32)) dX12_begins_31 (by decide) ?_
    refine rV_VM (as := [.int ((0 : Int32))]) (c_X12_starts w S _ _ _) mv_X12_starts rfl zg_1346 (by decide) (Nat.le_of_ble_eq_true rfl) dX12_begins_32 (fun M3 => ?_)
    exact aj_vret dX12_begins_35 rfl rfl
  refine aj_iconst (v := (0 : Int32)) dX12_begins_9 (by decide) ?_
  refine aj_istore_n (ls2 := [(1, .int ((0 : Int32))), (0, .ref (p0))]) dX12_begins_10 rfl (Nat.le_of_ble_eq_true rfl) rfl ?_
  refine AJ.sub [1, 0] rfl ?_
  exact t_X12_begins_11 w S zfu (p0) ((0 : Int32)) M
def gX12_init (p0 : Nat) (S : List (Nat × Nat)) (M : zM) : Option zH := znar S M 100 ((700 : Int32)) (fun S1 M2 r3 => zpR S1 M2 (p0) 12 66 1 (some (r3)) (fun M4 => znar S1 M4 100 ((14 : Int32)) (fun S5 M6 r7 => zpR S5 M6 (p0) 12 66 3 (some (r7)) (fun M8 => znar S5 M8 100 ((12 : Int32)) (fun S9 M10 r11 => zpR S9 M10 (p0) 12 66 4 (some (r11)) (fun M12 => znar S9 M12 100 ((12 : Int32)) (fun S13 M14 r15 => zpR S13 M14 (p0) 12 66 5 (some (r15)) (fun M16 => znar S13 M16 100 ((12 : Int32)) (fun S17 M18 r19 => zpR S17 M18 (p0) 12 66 6 (some (r19)) (fun M20 => znar S17 M20 100 ((24 : Int32)) (fun S21 M22 r23 => zpR S21 M22 (p0) 12 66 7 (some (r23)) (fun M24 => znar S21 M24 100 ((200 : Int32)) (fun S25 M26 r27 => zpR S25 M26 (p0) 12 66 8 (some (r27)) (fun M28 => znar S25 M28 100 ((10 : Int32)) (fun S29 M30 r31 => zpR S29 M30 (p0) 12 66 9 (some (r31)) (fun M32 => znar S29 M32 100 ((10 : Int32)) (fun S33 M34 r35 => zpR S33 M34 (p0) 12 66 10 (some (r35)) (fun M36 => znar S33 M36 100 ((10 : Int32)) (fun S37 M38 r39 => zpR S37 M38 (p0) 12 66 11 (some (r39)) (fun M40 => znar S37 M40 100 ((10 : Int32)) (fun S41 M42 r43 => zpR S41 M42 (p0) 12 66 12 (some (r43)) (fun M44 => znar S41 M44 100 ((6 : Int32)) (fun S45 M46 r47 => zpR S45 M46 (p0) 12 66 13 (some (r47)) (fun M48 => znar S45 M48 100 ((6 : Int32)) (fun S49 M50 r51 => zpR S49 M50 (p0) 12 66 14 (some (r51)) (fun M52 => znar S49 M52 100 ((128 : Int32)) (fun S53 M54 r55 => zpR S53 M54 (p0) 12 66 15 (some (r55)) (fun M56 => znar S53 M56 100 ((128 : Int32)) (fun S57 M58 r59 => zpR S57 M58 (p0) 12 66 16 (some (r59)) (fun M60 => zpI S57 M60 (p0) 12 66 27 ((-1 : Int32)) (fun M61 => znar S57 M61 101 ((7 : Int32)) (fun S62 M63 r64 => zpR S62 M63 (p0) 12 66 30 (some (r64)) (fun M65 => znar S62 M65 101 ((64 : Int32)) (fun S66 M67 r68 => zpR S66 M67 (p0) 12 66 31 (some (r68)) (fun M69 => znar S66 M69 100 ((30 : Int32)) (fun S70 M71 r72 => zpR S70 M71 (p0) 12 66 33 (some (r72)) (fun M73 => znar S70 M73 100 ((30 : Int32)) (fun S74 M75 r76 => zpR S74 M75 (p0) 12 66 34 (some (r76)) (fun M77 => znar S74 M77 100 ((30 : Int32)) (fun S78 M79 r80 => zpR S78 M79 (p0) 12 66 35 (some (r80)) (fun M81 => znar S78 M81 100 ((30 : Int32)) (fun S82 M83 r84 => zpR S82 M83 (p0) 12 66 36 (some (r84)) (fun M85 => znar S82 M85 100 ((30 : Int32)) (fun S86 M87 r88 => zpR S86 M87 (p0) 12 66 37 (some (r88)) (fun M89 => znar S86 M89 100 ((30 : Int32)) (fun S90 M91 r92 => zpR S90 M91 (p0) 12 66 38 (some (r92)) (fun M93 => znar S90 M93 100 ((30 : Int32)) (fun S94 M95 r96 => zpR S94 M95 (p0) 12 66 39 (some (r96)) (fun M97 => znar S94 M97 100 ((30 : Int32)) (fun S98 M99 r100 => zpR S98 M99 (p0) 12 66 40 (some (r100)) (fun M101 => znar S98 M101 100 ((180 : Int32)) (fun S102 M103 r104 => zpR S102 M103 (p0) 12 66 41 (some (r104)) (fun M105 => znar S102 M105 100 ((180 : Int32)) (fun S106 M107 r108 => zpR S106 M107 (p0) 12 66 42 (some (r108)) (fun M109 => znar S106 M109 100 ((360 : Int32)) (fun S110 M111 r112 => zpR S110 M111 (p0) 12 66 43 (some (r112)) (fun M113 => znar S110 M113 100 ((150 : Int32)) (fun S114 M115 r116 => zpR S114 M115 (p0) 12 66 44 (some (r116)) (fun M117 => zpI S114 M117 (p0) 12 66 48 ((-1 : Int32)) (fun M118 => zpI S114 M118 (p0) 12 66 49 ((-1 : Int32)) (fun M119 => znar S114 M119 100 ((6 : Int32)) (fun S120 M121 r122 => zpR S120 M121 (p0) 12 66 51 (some (r122)) (fun M123 => znar S120 M123 100 ((6 : Int32)) (fun S124 M125 r126 => zpR S124 M125 (p0) 12 66 52 (some (r126)) (fun M127 => znar S124 M127 100 ((6 : Int32)) (fun S128 M129 r130 => zpR S128 M129 (p0) 12 66 53 (some (r130)) (fun M131 => znar S128 M131 100 ((6 : Int32)) (fun S132 M133 r134 => zpR S132 M133 (p0) 12 66 54 (some (r134)) (fun M135 => znar S132 M135 100 ((12 : Int32)) (fun S136 M137 r138 => zpR S136 M137 (p0) 12 66 56 (some (r138)) (fun M139 => znar S136 M139 100 ((12 : Int32)) (fun S140 M141 r142 => zpR S140 M141 (p0) 12 66 57 (some (r142)) (fun M143 => zpI S140 M143 (p0) 12 66 59 ((-1 : Int32)) (fun M144 => znar S140 M144 100 ((24 : Int32)) (fun S145 M146 r147 => zpR S145 M146 (p0) 12 66 60 (some (r147)) (fun M148 => znar S145 M148 100 ((24 : Int32)) (fun S149 M150 r151 => zpR S149 M150 (p0) 12 66 61 (some (r151)) (fun M152 => znar S149 M152 102 ((24 : Int32)) (fun S153 M154 r155 => zpR S153 M154 (p0) 12 66 62 (some (r155)) (fun M156 => znar S153 M156 100 ((24 : Int32)) (fun S157 M158 r159 => zpR S157 M158 (p0) 12 66 63 (some (r159)) (fun M160 => znar S157 M160 102 ((24 : Int32)) (fun S161 M162 r163 => zpR S161 M162 (p0) 12 66 64 (some (r163)) (fun M164 => znar S161 M164 100 ((1464 : Int32)) (fun S165 M166 r167 => zpR S165 M166 (p0) 12 66 65 (some (r167)) (fun M168 => zrc S165 (p0) 12 66 ((gX12_begins S165 (p0) M168).bind (fun M169 => some (S165, M169)))))))))))))))))))))))))))))))))))))))))))))))))))))))))))))))))))))))))))))))))))))))))
set_option maxHeartbeats 4000000 in
set_option maxRecDepth 100000 in
theorem c_X12_init (w : zWd) (hz : zSZ w) (hg : w.2.2.2.2.2 = 0) (p0 : Nat) (S : List (Nat × Nat)) (M : zM) : CT zfC w 3 mX12_init [.ref (p0)] (S, M) (gX12_init p0 S M) := by
  refine CT.of (by decide) (Nat.le_of_ble_eq_true rfl) ?_
  show AJ _ _ _ _ 0 [(0, .ref (p0))] [] _ _
  unfold gX12_init
  refine aj_aload_n (0) dX12_init_0 rfl rfl ?_
  refine aj_obj zg_1341 zg_31 zg_32 (by decide) (Nat.le_of_ble_eq_true rfl) dX12_init_1 ?_
  refine aj_aload_n (0) dX12_init_4 rfl rfl ?_
  refine aj_sipush (v := (700 : Int32)) dX12_init_5 (by decide) ?_
  refine r_newI hg zg_46 dX12_init_8 (fun S1 M2 r3 => ?_)
  refine r_putR (TX := TX12) zc12 (by decide) rfl (Or.inr ⟨rfl, rfl, rfl, zg_1351⟩) (Or.inl zg_1351) dX12_init_10 (fun M4 => ?_)
  refine aj_aload_n (0) dX12_init_13 rfl rfl ?_
  refine aj_bipush (v := (14 : Int32)) dX12_init_14 (by decide) ?_
  refine r_newI hg zg_46 dX12_init_16 (fun S5 M6 r7 => ?_)
  refine r_putR (TX := TX12) zc12 (by decide) rfl (Or.inr ⟨rfl, rfl, rfl, zg_1353⟩) (Or.inl zg_1353) dX12_init_18 (fun M8 => ?_)
  refine aj_aload_n (0) dX12_init_21 rfl rfl ?_
  refine aj_bipush (v := (12 : Int32)) dX12_init_22 (by decide) ?_
  refine r_newI hg zg_46 dX12_init_24 (fun S9 M10 r11 => ?_)
  refine r_putR (TX := TX12) zc12 (by decide) rfl (Or.inr ⟨rfl, rfl, rfl, zg_1354⟩) (Or.inl zg_1354) dX12_init_26 (fun M12 => ?_)
  refine aj_aload_n (0) dX12_init_29 rfl rfl ?_
  refine aj_bipush (v := (12 : Int32)) dX12_init_30 (by decide) ?_
  refine r_newI hg zg_46 dX12_init_32 (fun S13 M14 r15 => ?_)
  refine r_putR (TX := TX12) zc12 (by decide) rfl (Or.inr ⟨rfl, rfl, rfl, zg_1355⟩) (Or.inl zg_1355) dX12_init_34 (fun M16 => ?_)
  refine aj_aload_n (0) dX12_init_37 rfl rfl ?_
  refine aj_bipush (v := (12 : Int32)) dX12_init_38 (by decide) ?_
  refine r_newI hg zg_46 dX12_init_40 (fun S17 M18 r19 => ?_)
  refine r_putR (TX := TX12) zc12 (by decide) rfl (Or.inr ⟨rfl, rfl, rfl, zg_1356⟩) (Or.inl zg_1356) dX12_init_42 (fun M20 => ?_)
  refine aj_aload_n (0) dX12_init_45 rfl rfl ?_
  refine aj_bipush (v := (24 : Int32)) dX12_init_46 (by decide) ?_
  refine r_newI hg zg_46 dX12_init_48 (fun S21 M22 r23 => ?_)
  refine r_putR (TX := TX12) zc12 (by decide) rfl (Or.inr ⟨rfl, rfl, rfl, zg_1357⟩) (Or.inl zg_1357) dX12_init_50 (fun M24 => ?_)
  refine aj_aload_n (0) dX12_init_53 rfl rfl ?_
  refine aj_sipush (v := (200 : Int32)) dX12_init_54 (by decide) ?_
  refine r_newI hg zg_46 dX12_init_57 (fun S25 M26 r27 => ?_)
  refine r_putR (TX := TX12) zc12 (by decide) rfl (Or.inr ⟨rfl, rfl, rfl, zg_1358⟩) (Or.inl zg_1358) dX12_init_59 (fun M28 => ?_)
  refine aj_aload_n (0) dX12_init_62 rfl rfl ?_
  refine aj_bipush (v := (10 : Int32)) dX12_init_63 (by decide) ?_
  refine r_newI hg zg_46 dX12_init_65 (fun S29 M30 r31 => ?_)
  refine r_putR (TX := TX12) zc12 (by decide) rfl (Or.inr ⟨rfl, rfl, rfl, zg_1359⟩) (Or.inl zg_1359) dX12_init_67 (fun M32 => ?_)
  refine aj_aload_n (0) dX12_init_70 rfl rfl ?_
  refine aj_bipush (v := (10 : Int32)) dX12_init_71 (by decide) ?_
  refine r_newI hg zg_46 dX12_init_73 (fun S33 M34 r35 => ?_)
  refine r_putR (TX := TX12) zc12 (by decide) rfl (Or.inr ⟨rfl, rfl, rfl, zg_1360⟩) (Or.inl zg_1360) dX12_init_75 (fun M36 => ?_)
  refine aj_aload_n (0) dX12_init_78 rfl rfl ?_
  refine aj_bipush (v := (10 : Int32)) dX12_init_79 (by decide) ?_
  refine r_newI hg zg_46 dX12_init_81 (fun S37 M38 r39 => ?_)
  refine r_putR (TX := TX12) zc12 (by decide) rfl (Or.inr ⟨rfl, rfl, rfl, zg_1361⟩) (Or.inl zg_1361) dX12_init_83 (fun M40 => ?_)
  refine aj_aload_n (0) dX12_init_86 rfl rfl ?_
  refine aj_bipush (v := (10 : Int32)) dX12_init_87 (by decide) ?_
  refine r_newI hg zg_46 dX12_init_89 (fun S41 M42 r43 => ?_)
  refine r_putR (TX := TX12) zc12 (by decide) rfl (Or.inr ⟨rfl, rfl, rfl, zg_1362⟩) (Or.inl zg_1362) dX12_init_91 (fun M44 => ?_)
  refine aj_aload_n (0) dX12_init_94 rfl rfl ?_
  refine aj_bipush (v := (6 : Int32)) dX12_init_95 (by decide) ?_
  refine r_newI hg zg_46 dX12_init_97 (fun S45 M46 r47 => ?_)
  refine r_putR (TX := TX12) zc12 (by decide) rfl (Or.inr ⟨rfl, rfl, rfl, zg_1363⟩) (Or.inl zg_1363) dX12_init_99 (fun M48 => ?_)
  refine aj_aload_n (0) dX12_init_102 rfl rfl ?_
  refine aj_bipush (v := (6 : Int32)) dX12_init_103 (by decide) ?_
  refine r_newI hg zg_46 dX12_init_105 (fun S49 M50 r51 => ?_)
  refine r_putR (TX := TX12) zc12 (by decide) rfl (Or.inr ⟨rfl, rfl, rfl, zg_1364⟩) (Or.inl zg_1364) dX12_init_107 (fun M52 => ?_)
  refine aj_aload_n (0) dX12_init_110 rfl rfl ?_
  refine aj_sipush (v := (128 : Int32)) dX12_init_111 (by decide) ?_
  refine r_newI hg zg_46 dX12_init_114 (fun S53 M54 r55 => ?_)
  refine r_putR (TX := TX12) zc12 (by decide) rfl (Or.inr ⟨rfl, rfl, rfl, zg_1365⟩) (Or.inl zg_1365) dX12_init_116 (fun M56 => ?_)
  refine aj_aload_n (0) dX12_init_119 rfl rfl ?_
  refine aj_sipush (v := (128 : Int32)) dX12_init_120 (by decide) ?_
  refine r_newI hg zg_46 dX12_init_123 (fun S57 M58 r59 => ?_)
  refine r_putR (TX := TX12) zc12 (by decide) rfl (Or.inr ⟨rfl, rfl, rfl, zg_1366⟩) (Or.inl zg_1366) dX12_init_125 (fun M60 => ?_)
  refine aj_aload_n (0) dX12_init_128 rfl rfl ?_
  refine aj_iconst (v := (-1 : Int32)) dX12_init_129 (by decide) ?_
  refine r_putI (TX := TX12) zc12 (by decide) rfl rfl rfl rfl (Or.inl zg_1377) dX12_init_130 (fun M61 => ?_)
  refine aj_aload_n (0) dX12_init_133 rfl rfl ?_
  refine aj_bipush (v := (7 : Int32)) dX12_init_134 (by decide) ?_
  refine r_newL hg zg_179 dX12_init_136 (fun S62 M63 r64 => ?_)
  refine r_putR (TX := TX12) zc12 (by decide) rfl (Or.inr ⟨rfl, rfl, rfl, zg_1380⟩) (Or.inl zg_1380) dX12_init_138 (fun M65 => ?_)
  refine aj_aload_n (0) dX12_init_141 rfl rfl ?_
  refine aj_bipush (v := (64 : Int32)) dX12_init_142 (by decide) ?_
  refine r_newL hg zg_179 dX12_init_144 (fun S66 M67 r68 => ?_)
  refine r_putR (TX := TX12) zc12 (by decide) rfl (Or.inr ⟨rfl, rfl, rfl, zg_1381⟩) (Or.inl zg_1381) dX12_init_146 (fun M69 => ?_)
  refine aj_aload_n (0) dX12_init_149 rfl rfl ?_
  refine aj_bipush (v := (30 : Int32)) dX12_init_150 (by decide) ?_
  refine r_newI hg zg_46 dX12_init_152 (fun S70 M71 r72 => ?_)
  refine r_putR (TX := TX12) zc12 (by decide) rfl (Or.inr ⟨rfl, rfl, rfl, zg_1383⟩) (Or.inl zg_1383) dX12_init_154 (fun M73 => ?_)
  refine aj_aload_n (0) dX12_init_157 rfl rfl ?_
  refine aj_bipush (v := (30 : Int32)) dX12_init_158 (by decide) ?_
  refine r_newI hg zg_46 dX12_init_160 (fun S74 M75 r76 => ?_)
  refine r_putR (TX := TX12) zc12 (by decide) rfl (Or.inr ⟨rfl, rfl, rfl, zg_1384⟩) (Or.inl zg_1384) dX12_init_162 (fun M77 => ?_)
  refine aj_aload_n (0) dX12_init_165 rfl rfl ?_
  refine aj_bipush (v := (30 : Int32)) dX12_init_166 (by decide) ?_
  refine r_newI hg zg_46 dX12_init_168 (fun S78 M79 r80 => ?_)
  refine r_putR (TX := TX12) zc12 (by decide) rfl (Or.inr ⟨rfl, rfl, rfl, zg_1385⟩) (Or.inl zg_1385) dX12_init_170 (fun M81 => ?_)
  refine aj_aload_n (0) dX12_init_173 rfl rfl ?_
  refine aj_bipush (v := (30 : Int32)) dX12_init_174 (by decide) ?_
  refine r_newI hg zg_46 dX12_init_176 (fun S82 M83 r84 => ?_)
  refine r_putR (TX := TX12) zc12 (by decide) rfl (Or.inr ⟨rfl, rfl, rfl, zg_1386⟩) (Or.inl zg_1386) dX12_init_178 (fun M85 => ?_)
  refine aj_aload_n (0) dX12_init_181 rfl rfl ?_
  refine aj_bipush (v := (30 : Int32)) dX12_init_182 (by decide) ?_
  refine r_newI hg zg_46 dX12_init_184 (fun S86 M87 r88 => ?_)
  refine r_putR (TX := TX12) zc12 (by decide) rfl (Or.inr ⟨rfl, rfl, rfl, zg_1387⟩) (Or.inl zg_1387) dX12_init_186 (fun M89 => ?_)
  refine aj_aload_n (0) dX12_init_189 rfl rfl ?_
  refine aj_bipush (v := (30 : Int32)) dX12_init_190 (by decide) ?_
  refine r_newI hg zg_46 dX12_init_192 (fun S90 M91 r92 => ?_)
  refine r_putR (TX := TX12) zc12 (by decide) rfl (Or.inr ⟨rfl, rfl, rfl, zg_1388⟩) (Or.inl zg_1388) dX12_init_194 (fun M93 => ?_)
  refine aj_aload_n (0) dX12_init_197 rfl rfl ?_
  refine aj_bipush (v := (30 : Int32)) dX12_init_198 (by decide) ?_
  refine r_newI hg zg_46 dX12_init_200 (fun S94 M95 r96 => ?_)
  refine r_putR (TX := TX12) zc12 (by decide) rfl (Or.inr ⟨rfl, rfl, rfl, zg_1389⟩) (Or.inl zg_1389) dX12_init_202 (fun M97 => ?_)
  refine aj_aload_n (0) dX12_init_205 rfl rfl ?_
  refine aj_bipush (v := (30 : Int32)) dX12_init_206 (by decide) ?_
  refine r_newI hg zg_46 dX12_init_208 (fun S98 M99 r100 => ?_)
  refine r_putR (TX := TX12) zc12 (by decide) rfl (Or.inr ⟨rfl, rfl, rfl, zg_1390⟩) (Or.inl zg_1390) dX12_init_210 (fun M101 => ?_)
  refine aj_aload_n (0) dX12_init_213 rfl rfl ?_
  refine aj_sipush (v := (180 : Int32)) dX12_init_214 (by decide) ?_
  refine r_newI hg zg_46 dX12_init_217 (fun S102 M103 r104 => ?_)
  refine r_putR (TX := TX12) zc12 (by decide) rfl (Or.inr ⟨rfl, rfl, rfl, zg_1391⟩) (Or.inl zg_1391) dX12_init_219 (fun M105 => ?_)
  refine aj_aload_n (0) dX12_init_222 rfl rfl ?_
  refine aj_sipush (v := (180 : Int32)) dX12_init_223 (by decide) ?_
  refine r_newI hg zg_46 dX12_init_226 (fun S106 M107 r108 => ?_)
  refine r_putR (TX := TX12) zc12 (by decide) rfl (Or.inr ⟨rfl, rfl, rfl, zg_1392⟩) (Or.inl zg_1392) dX12_init_228 (fun M109 => ?_)
  refine aj_aload_n (0) dX12_init_231 rfl rfl ?_
  refine aj_sipush (v := (360 : Int32)) dX12_init_232 (by decide) ?_
  refine r_newI hg zg_46 dX12_init_235 (fun S110 M111 r112 => ?_)
  refine r_putR (TX := TX12) zc12 (by decide) rfl (Or.inr ⟨rfl, rfl, rfl, zg_1393⟩) (Or.inl zg_1393) dX12_init_237 (fun M113 => ?_)
  refine aj_aload_n (0) dX12_init_240 rfl rfl ?_
  refine aj_sipush (v := (150 : Int32)) dX12_init_241 (by decide) ?_
  refine r_newI hg zg_46 dX12_init_244 (fun S114 M115 r116 => ?_)
  refine r_putR (TX := TX12) zc12 (by decide) rfl (Or.inr ⟨rfl, rfl, rfl, zg_1394⟩) (Or.inl zg_1394) dX12_init_246 (fun M117 => ?_)
  refine aj_aload_n (0) dX12_init_249 rfl rfl ?_
  refine aj_iconst (v := (-1 : Int32)) dX12_init_250 (by decide) ?_
  refine r_putI (TX := TX12) zc12 (by decide) rfl rfl rfl rfl (Or.inl zg_1398) dX12_init_251 (fun M118 => ?_)
  refine aj_aload_n (0) dX12_init_254 rfl rfl ?_
  refine aj_iconst (v := (-1 : Int32)) dX12_init_255 (by decide) ?_
  refine r_putI (TX := TX12) zc12 (by decide) rfl rfl rfl rfl (Or.inl zg_1399) dX12_init_256 (fun M119 => ?_)
  refine aj_aload_n (0) dX12_init_259 rfl rfl ?_
  refine aj_bipush (v := (6 : Int32)) dX12_init_260 (by decide) ?_
  refine r_newI hg zg_46 dX12_init_262 (fun S120 M121 r122 => ?_)
  refine r_putR (TX := TX12) zc12 (by decide) rfl (Or.inr ⟨rfl, rfl, rfl, zg_1401⟩) (Or.inl zg_1401) dX12_init_264 (fun M123 => ?_)
  refine aj_aload_n (0) dX12_init_267 rfl rfl ?_
  refine aj_bipush (v := (6 : Int32)) dX12_init_268 (by decide) ?_
  refine r_newI hg zg_46 dX12_init_270 (fun S124 M125 r126 => ?_)
  refine r_putR (TX := TX12) zc12 (by decide) rfl (Or.inr ⟨rfl, rfl, rfl, zg_1402⟩) (Or.inl zg_1402) dX12_init_272 (fun M127 => ?_)
  refine aj_aload_n (0) dX12_init_275 rfl rfl ?_
  refine aj_bipush (v := (6 : Int32)) dX12_init_276 (by decide) ?_
  refine r_newI hg zg_46 dX12_init_278 (fun S128 M129 r130 => ?_)
  refine r_putR (TX := TX12) zc12 (by decide) rfl (Or.inr ⟨rfl, rfl, rfl, zg_1403⟩) (Or.inl zg_1403) dX12_init_280 (fun M131 => ?_)
  refine aj_aload_n (0) dX12_init_283 rfl rfl ?_
  refine aj_bipush (v := (6 : Int32)) dX12_init_284 (by decide) ?_
  refine r_newI hg zg_46 dX12_init_286 (fun S132 M133 r134 => ?_)
  refine r_putR (TX := TX12) zc12 (by decide) rfl (Or.inr ⟨rfl, rfl, rfl, zg_1404⟩) (Or.inl zg_1404) dX12_init_288 (fun M135 => ?_)
  refine aj_aload_n (0) dX12_init_291 rfl rfl ?_
  refine aj_bipush (v := (12 : Int32)) dX12_init_292 (by decide) ?_
  refine r_newI hg zg_46 dX12_init_294 (fun S136 M137 r138 => ?_)
  refine r_putR (TX := TX12) zc12 (by decide) rfl (Or.inr ⟨rfl, rfl, rfl, zg_1406⟩) (Or.inl zg_1406) dX12_init_296 (fun M139 => ?_)
  refine aj_aload_n (0) dX12_init_299 rfl rfl ?_
  refine aj_bipush (v := (12 : Int32)) dX12_init_300 (by decide) ?_
  refine r_newI hg zg_46 dX12_init_302 (fun S140 M141 r142 => ?_)
  refine r_putR (TX := TX12) zc12 (by decide) rfl (Or.inr ⟨rfl, rfl, rfl, zg_1407⟩) (Or.inl zg_1407) dX12_init_304 (fun M143 => ?_)
  refine aj_aload_n (0) dX12_init_307 rfl rfl ?_
  refine aj_iconst (v := (-1 : Int32)) dX12_init_308 (by decide) ?_
  refine r_putI (TX := TX12) zc12 (by decide) rfl rfl rfl rfl (Or.inl zg_1409) dX12_init_309 (fun M144 => ?_)
  refine aj_aload_n (0) dX12_init_312 rfl rfl ?_
  refine aj_bipush (v := (24 : Int32)) dX12_init_313 (by decide) ?_
  refine r_newI hg zg_46 dX12_init_315 (fun S145 M146 r147 => ?_)
  refine r_putR (TX := TX12) zc12 (by decide) rfl (Or.inr ⟨rfl, rfl, rfl, zg_1410⟩) (Or.inl zg_1410) dX12_init_317 (fun M148 => ?_)
  refine aj_aload_n (0) dX12_init_320 rfl rfl ?_
  refine aj_bipush (v := (24 : Int32)) dX12_init_321 (by decide) ?_
  refine r_newI hg zg_46 dX12_init_323 (fun S149 M150 r151 => ?_)
  refine r_putR (TX := TX12) zc12 (by decide) rfl (Or.inr ⟨rfl, rfl, rfl, zg_1411⟩) (Or.inl zg_1411) dX12_init_325 (fun M152 => ?_)
  refine aj_aload_n (0) dX12_init_328 rfl rfl ?_
  refine aj_bipush (v := (24 : Int32)) dX12_init_329 (by decide) ?_
  refine r_newZ hg zg_1549 dX12_init_331 (fun S153 M154 r155 => ?_)
  refine r_putR (TX := TX12) zc12 (by decide) rfl (Or.inr ⟨rfl, rfl, rfl, zg_1412⟩) (Or.inl zg_1412) dX12_init_333 (fun M156 => ?_)
  refine aj_aload_n (0) dX12_init_336 rfl rfl ?_
  refine aj_bipush (v := (24 : Int32)) dX12_init_337 (by decide) ?_
  refine r_newI hg zg_46 dX12_init_339 (fun S157 M158 r159 => ?_)
  refine r_putR (TX := TX12) zc12 (by decide) rfl (Or.inr ⟨rfl, rfl, rfl, zg_1413⟩) (Or.inl zg_1413) dX12_init_341 (fun M160 => ?_)
  refine aj_aload_n (0) dX12_init_344 rfl rfl ?_
  refine aj_bipush (v := (24 : Int32)) dX12_init_345 (by decide) ?_
  refine r_newZ hg zg_1549 dX12_init_347 (fun S161 M162 r163 => ?_)
  refine r_putR (TX := TX12) zc12 (by decide) rfl (Or.inr ⟨rfl, rfl, rfl, zg_1414⟩) (Or.inl zg_1414) dX12_init_349 (fun M164 => ?_)
  refine aj_aload_n (0) dX12_init_352 rfl rfl ?_
  refine aj_sipush (v := (1464 : Int32)) dX12_init_353 (by decide) ?_
  refine r_newI hg zg_46 dX12_init_356 (fun S165 M166 r167 => ?_)
  refine r_putR (TX := TX12) zc12 (by decide) rfl (Or.inr ⟨rfl, rfl, rfl, zg_1415⟩) (Or.inl zg_1415) dX12_init_358 (fun M168 => ?_)
  refine aj_aload_n (0) dX12_init_361 rfl rfl ?_
  refine rV_VM (as := []) (c_X12_begins w S165 _ _) mv_X12_begins rfl zg_1342 (by decide) (Nat.le_of_ble_eq_true rfl) dX12_init_362 (fun M169 => ?_)
  exact aj_vret dX12_init_365 rfl rfl
def gX12_thrown (S : List (Nat × Nat)) (p0 : Nat) (M : zM) : Option Int32 := zgI S M (p0) 12 66 0 (fun v1 => some (v1))
set_option maxHeartbeats 4000000 in
set_option maxRecDepth 100000 in
theorem c_X12_thrown (w : zWd) (S : List (Nat × Nat)) (p0 : Nat) (M : zM) : CT (zfI S M) w 1 mX12_thrown [.ref (p0)] (S, M) (gX12_thrown S p0 M) := by
  refine CT.of (by decide) (Nat.le_of_ble_eq_true rfl) ?_
  show AJ _ _ _ _ 0 [(0, .ref (p0))] [] _ _
  unfold gX12_thrown
  refine aj_aload_n (0) dX12_thrown_0 rfl rfl ?_
  refine r_getI (TX := TX12) zc12 (by decide) rfl (Or.inl zg_1350) dX12_thrown_1 (fun v1 => ?_)
  exact aj_iret dX12_thrown_4 rfl rfl rfl
def gX12_feed_73 (S : List (Nat × Nat)) (k20 : Nat → Int32 → Int32 → Int32 → Int32 → Int32 → Int32 → zM → Option (Int32 × zM)) (p0 : Nat) (x1 : Int32) (x2 : Int32) (x3 : Int32) (x4 : Int32) (x5 : Int32) (x6 : Int32) (x0s : Int32) (M : zM) : Option (Int32 × zM) := zgR S M (p0) 12 66 1 (fun r1 => zgI S M (p0) 12 66 2 (fun v2 => zbI S M (r1) ((v2 + x6)) (((x0s >>> (((24 : Int32) - ((8 : Int32) * (x6 - x6 / (4 : Int32) * (4 : Int32)))) &&& 31)) &&& (255 : Int32))) (fun M3 => k20 (p0) (x1) (x2) (x3) (x4) (x5) ((x6 + (1 : Int32))) M3)))
set_option maxHeartbeats 4000000 in
set_option maxRecDepth 100000 in
theorem t_X12_feed_73 (w : zWd) (S : List (Nat × Nat)) (k20 : Nat → Int32 → Int32 → Int32 → Int32 → Int32 → Int32 → zM → Option (Int32 × zM)) (hk20 : ∀ (p0 : Nat) (x1 : Int32) (x2 : Int32) (x3 : Int32) (x4 : Int32) (x5 : Int32) (x6 : Int32) (M : zM), AJ (zfIM S) w 1 mX12_feed 20 [(0, .ref (p0)), (1, .int (x1)), (2, .int (x2)), (3, .int (x3)), (4, .int (x4)), (5, .int (x5)), (6, .int (x6))] [] (S, M) (k20 p0 x1 x2 x3 x4 x5 x6 M)) (p0 : Nat) (x1 : Int32) (x2 : Int32) (x3 : Int32) (x4 : Int32) (x5 : Int32) (x6 : Int32) (x0s : Int32) (M : zM) : AJ (zfIM S) w 1 mX12_feed 73 [(0, .ref (p0)), (1, .int (x1)), (2, .int (x2)), (3, .int (x3)), (4, .int (x4)), (5, .int (x5)), (6, .int (x6))] [.int (x0s)] (S, M) (gX12_feed_73 S k20 p0 x1 x2 x3 x4 x5 x6 x0s M) := by
  unfold gX12_feed_73
  refine aj_istore (ls2 := [(7, .int (x0s)), (0, .ref (p0)), (1, .int (x1)), (2, .int (x2)), (3, .int (x3)), (4, .int (x4)), (5, .int (x5)), (6, .int (x6))]) dX12_feed_73 (Nat.le_of_ble_eq_true rfl) rfl ?_
  refine aj_aload_n (1) dX12_feed_75 rfl rfl ?_
  refine aj_getR (TX := TX12) zc12 (by decide) rfl (Or.inl zg_1351) dX12_feed_76 (fun r1 => ?_)
  refine aj_aload_n (1) dX12_feed_79 rfl rfl ?_
  refine r_getI (TX := TX12) zc12 (by decide) rfl (Or.inl zg_1352) dX12_feed_80 (fun v2 => ?_)
  refine aj_iload (7) dX12_feed_83 rfl ?_
  refine aj_iadd dX12_feed_85 ?_
  refine aj_iload (0) dX12_feed_86 rfl ?_
  refine aj_bipush (v := (24 : Int32)) dX12_feed_88 (by decide) ?_
  refine aj_bipush (v := (8 : Int32)) dX12_feed_90 (by decide) ?_
  refine aj_iload (7) dX12_feed_92 rfl ?_
  refine aj_iconst (v := (4 : Int32)) dX12_feed_94 (by decide) ?_
  refine aj_iremc dX12_feed_95 (by decide) ?_
  refine aj_imul dX12_feed_96 ?_
  refine aj_isub dX12_feed_97 ?_
  refine aj_ishr dX12_feed_98 ?_
  refine aj_sipush (v := (255 : Int32)) dX12_feed_99 (by decide) ?_
  refine aj_iand dX12_feed_102 ?_
  refine r_iast dX12_feed_103 (fun M3 => ?_)
  refine aj_iinc (j := 7) (v := (x6 + (1 : Int32))) (ls2 := [(6, .int ((x6 + (1 : Int32)))), (7, .int (x0s)), (0, .ref (p0)), (1, .int (x1)), (2, .int (x2)), (3, .int (x3)), (4, .int (x4)), (5, .int (x5))]) dX12_feed_104 rfl rfl (Nat.le_of_ble_eq_true rfl) rfl ?_
  refine aj_goto (tgt := 20) dX12_feed_107 (by decide) ?_
  refine AJ.sub [2, 3, 4, 5, 6, 7, 0] rfl ?_
  exact hk20 (p0) (x1) (x2) (x3) (x4) (x5) ((x6 + (1 : Int32))) M3
def gX12_feed_20 (S : List (Nat × Nat)) : Nat → Nat → Int32 → Int32 → Int32 → Int32 → Int32 → Int32 → zM → Option (Int32 × zM)
  | 0 => fun _ _ _ _ _ _ _ _ => none
  | n + 1 => fun p0 x1 x2 x3 x4 x5 x6 M => (if (20 : Int32) ≤ x6 then zgI S M (p0) 12 66 2 (fun v1 => zpI S M (p0) 12 66 2 ((v1 + (20 : Int32))) (fun M2 => zgI S M2 (p0) 12 66 2 (fun v3 => some (v3, M2)))) else (if (4 : Int32) ≤ x6 then (if (8 : Int32) ≤ x6 then (if (12 : Int32) ≤ x6 then (if (16 : Int32) ≤ x6 then gX12_feed_73 S (gX12_feed_20 S   n) (p0) (x1) (x2) (x3) (x4) (x5) (x6) (x5) M else gX12_feed_73 S (gX12_feed_20 S   n) (p0) (x1) (x2) (x3) (x4) (x5) (x6) (x4) M) else gX12_feed_73 S (gX12_feed_20 S   n) (p0) (x1) (x2) (x3) (x4) (x5) (x6) (x3) M) else gX12_feed_73 S (gX12_feed_20 S   n) (p0) (x1) (x2) (x3) (x4) (x5) (x6) (x2) M) else gX12_feed_73 S (gX12_feed_20 S   n) (p0) (x1) (x2) (x3) (x4) (x5) (x6) (x1) M))
set_option maxHeartbeats 4000000 in
set_option maxRecDepth 100000 in
theorem t_X12_feed_20 (w : zWd) (S : List (Nat × Nat)) (fu : Nat) : ∀ (p0 : Nat) (x1 : Int32) (x2 : Int32) (x3 : Int32) (x4 : Int32) (x5 : Int32) (x6 : Int32) (M : zM), AJ (zfIM S) w 1 mX12_feed 20 [(0, .ref (p0)), (1, .int (x1)), (2, .int (x2)), (3, .int (x3)), (4, .int (x4)), (5, .int (x5)), (6, .int (x6))] [] (S, M) (gX12_feed_20 S fu p0 x1 x2 x3 x4 x5 x6 M) := by
  induction fu with
  | zero => intro p0 x1 x2 x3 x4 x5 x6 M; exact AJ.none
  | succ n ih =>
    intro p0 x1 x2 x3 x4 x5 x6 M
    unfold gX12_feed_20
    refine aj_iload (6) dX12_feed_20 rfl ?_
    refine aj_bipush (v := (20 : Int32)) dX12_feed_22 (by decide) ?_
    refine aj_icmp_ge (tgt := 110) dX12_feed_24 (by decide) (fun h => ?_) (fun h => ?_)
    · refine aj_aload_n (0) dX12_feed_110 rfl rfl ?_
      refine aj_dup dX12_feed_111 rfl ?_
      refine r_getI (TX := TX12) zc12 (by decide) rfl (Or.inl zg_1352) dX12_feed_112 (fun v1 => ?_)
      refine aj_bipush (v := (20 : Int32)) dX12_feed_115 (by decide) ?_
      refine aj_iadd dX12_feed_117 ?_
      refine r_putI (TX := TX12) zc12 (by decide) rfl rfl rfl rfl (Or.inl zg_1352) dX12_feed_118 (fun M2 => ?_)
      refine aj_aload_n (0) dX12_feed_121 rfl rfl ?_
      refine r_getI (TX := TX12) zc12 (by decide) rfl (Or.inl zg_1352) dX12_feed_122 (fun v3 => ?_)
      exact aj_iret dX12_feed_125 rfl rfl rfl
    refine aj_iload (6) dX12_feed_27 rfl ?_
    refine aj_iconst (v := (4 : Int32)) dX12_feed_29 (by decide) ?_
    refine aj_icmp_ge (tgt := 37) dX12_feed_30 (by decide) (fun h => ?_) (fun h => ?_)
    · refine aj_iload (6) dX12_feed_37 rfl ?_
      refine aj_bipush (v := (8 : Int32)) dX12_feed_39 (by decide) ?_
      refine aj_icmp_ge (tgt := 48) dX12_feed_41 (by decide) (fun h => ?_) (fun h => ?_)
      · refine aj_iload (6) dX12_feed_48 rfl ?_
        refine aj_bipush (v := (12 : Int32)) dX12_feed_50 (by decide) ?_
        refine aj_icmp_ge (tgt := 59) dX12_feed_52 (by decide) (fun h => ?_) (fun h => ?_)
        · refine aj_iload (6) dX12_feed_59 rfl ?_
          refine aj_bipush (v := (16 : Int32)) dX12_feed_61 (by decide) ?_
          refine aj_icmp_ge (tgt := 71) dX12_feed_63 (by decide) (fun h => ?_) (fun h => ?_)
          · refine aj_iload (5) dX12_feed_71 rfl ?_
            refine AJ.sub [0, 1, 2, 3, 4, 5, 6] rfl ?_
            exact t_X12_feed_73 w S (gX12_feed_20 S   n) ih (p0) (x1) (x2) (x3) (x4) (x5) (x6) (x5) M
          refine aj_iload (4) dX12_feed_66 rfl ?_
          refine aj_goto (tgt := 73) dX12_feed_68 (by decide) ?_
          refine AJ.sub [0, 1, 2, 3, 4, 5, 6] rfl ?_
          exact t_X12_feed_73 w S (gX12_feed_20 S   n) ih (p0) (x1) (x2) (x3) (x4) (x5) (x6) (x4) M
        refine aj_iload_n (3) dX12_feed_55 rfl rfl ?_
        refine aj_goto (tgt := 73) dX12_feed_56 (by decide) ?_
        refine AJ.sub [0, 1, 2, 3, 4, 5, 6] rfl ?_
        exact t_X12_feed_73 w S (gX12_feed_20 S   n) ih (p0) (x1) (x2) (x3) (x4) (x5) (x6) (x3) M
      refine aj_iload_n (2) dX12_feed_44 rfl rfl ?_
      refine aj_goto (tgt := 73) dX12_feed_45 (by decide) ?_
      refine AJ.sub [0, 1, 2, 3, 4, 5, 6] rfl ?_
      exact t_X12_feed_73 w S (gX12_feed_20 S   n) ih (p0) (x1) (x2) (x3) (x4) (x5) (x6) (x2) M
    refine aj_iload_n (1) dX12_feed_33 rfl rfl ?_
    refine aj_goto (tgt := 73) dX12_feed_34 (by decide) ?_
    refine AJ.sub [0, 1, 2, 3, 4, 5, 6] rfl ?_
    exact t_X12_feed_73 w S (gX12_feed_20 S   n) ih (p0) (x1) (x2) (x3) (x4) (x5) (x6) (x1) M
def gX12_feed (S : List (Nat × Nat)) (p0 : Nat) (x1 : Int32) (x2 : Int32) (x3 : Int32) (x4 : Int32) (x5 : Int32) (M : zM) : Option (Int32 × zM) := zpI S M (p0) 12 66 0 ((0 : Int32)) (fun M1 => zgI S M1 (p0) 12 66 2 (fun v2 => (if v2 ≤ (680 : Int32) then gX12_feed_20 S zfu (p0) (x1) (x2) (x3) (x4) (x5) ((0 : Int32)) M1 else some ((-1 : Int32), M1))))
set_option maxHeartbeats 4000000 in
set_option maxRecDepth 100000 in
theorem c_X12_feed (w : zWd) (S : List (Nat × Nat)) (p0 : Nat) (x1 : Int32) (x2 : Int32) (x3 : Int32) (x4 : Int32) (x5 : Int32) (M : zM) : CT (zfIM S) w 1 mX12_feed [.ref (p0), .int (x1), .int (x2), .int (x3), .int (x4), .int (x5)] (S, M) (gX12_feed S p0 x1 x2 x3 x4 x5 M) := by
  refine CT.of (by decide) (Nat.le_of_ble_eq_true rfl) ?_
  show AJ _ _ _ _ 0 [(0, .ref (p0)), (1, .int (x1)), (2, .int (x2)), (3, .int (x3)), (4, .int (x4)), (5, .int (x5))] [] _ _
  unfold gX12_feed
  refine aj_aload_n (0) dX12_feed_0 rfl rfl ?_
  refine aj_iconst (v := (0 : Int32)) dX12_feed_1 (by decide) ?_
  refine r_putI (TX := TX12) zc12 (by decide) rfl rfl rfl rfl (Or.inl zg_1350) dX12_feed_2 (fun M1 => ?_)
  refine aj_aload_n (0) dX12_feed_5 rfl rfl ?_
  refine r_getI (TX := TX12) zc12 (by decide) rfl (Or.inl zg_1352) dX12_feed_6 (fun v2 => ?_)
  refine aj_sipush (v := (680 : Int32)) dX12_feed_9 (by decide) ?_
  refine aj_icmp_le (tgt := 17) dX12_feed_12 (by decide) (fun h => ?_) (fun h => ?_)
  · refine aj_iconst (v := (0 : Int32)) dX12_feed_17 (by decide) ?_
    refine aj_istore (ls2 := [(6, .int ((0 : Int32))), (0, .ref (p0)), (1, .int (x1)), (2, .int (x2)), (3, .int (x3)), (4, .int (x4)), (5, .int (x5))]) dX12_feed_18 (Nat.le_of_ble_eq_true rfl) rfl ?_
    refine AJ.sub [1, 2, 3, 4, 5, 6, 0] rfl ?_
    exact t_X12_feed_20 w S zfu (p0) (x1) (x2) (x3) (x4) (x5) ((0 : Int32)) M1
  refine aj_iconst (v := (-1 : Int32)) dX12_feed_15 (by decide) ?_
  exact aj_iret dX12_feed_16 rfl rfl rfl
def gX12_here (S : List (Nat × Nat)) (p0 : Nat) (M : zM) : Option Int32 := zgI S M (p0) 12 66 20 (fun v1 => zgI S M (p0) 12 66 19 (fun v2 => (if v2 ≤ v1 then some ((-1 : Int32)) else zgR S M (p0) 12 66 1 (fun r3 => zgI S M (p0) 12 66 20 (fun v4 => zaI S M 100 (r3) (v4) (fun v5 => some (v5)))))))
set_option maxHeartbeats 4000000 in
set_option maxRecDepth 100000 in
theorem c_X12_here (w : zWd) (S : List (Nat × Nat)) (p0 : Nat) (M : zM) : CT (zfI S M) w 1 mX12_here [.ref (p0)] (S, M) (gX12_here S p0 M) := by
  refine CT.of (by decide) (Nat.le_of_ble_eq_true rfl) ?_
  show AJ _ _ _ _ 0 [(0, .ref (p0))] [] _ _
  unfold gX12_here
  refine aj_aload_n (0) dX12_here_0 rfl rfl ?_
  refine r_getI (TX := TX12) zc12 (by decide) rfl (Or.inl zg_1370) dX12_here_1 (fun v1 => ?_)
  refine aj_aload_n (0) dX12_here_4 rfl rfl ?_
  refine r_getI (TX := TX12) zc12 (by decide) rfl (Or.inl zg_1369) dX12_here_5 (fun v2 => ?_)
  refine aj_icmp_ge (tgt := 23) dX12_here_8 (by decide) (fun h => ?_) (fun h => ?_)
  · refine aj_iconst (v := (-1 : Int32)) dX12_here_23 (by decide) ?_
    exact aj_iret dX12_here_24 rfl rfl rfl
  refine aj_aload_n (0) dX12_here_11 rfl rfl ?_
  refine aj_getR (TX := TX12) zc12 (by decide) rfl (Or.inl zg_1351) dX12_here_12 (fun r3 => ?_)
  refine aj_aload_n (0) dX12_here_15 rfl rfl ?_
  refine r_getI (TX := TX12) zc12 (by decide) rfl (Or.inl zg_1370) dX12_here_16 (fun v4 => ?_)
  refine r_iald dX12_here_19 (fun v5 => ?_)
  refine aj_goto (tgt := 24) dX12_here_20 (by decide) ?_
  exact aj_iret dX12_here_24 rfl rfl rfl
def gX12_isSmall (S : List (Nat × Nat)) (x0 : Int32) (M : zM) : Option Int32 := (if x0 < (97 : Int32) then some ((0 : Int32)) else (if (122 : Int32) < x0 then some ((0 : Int32)) else some ((1 : Int32))))
set_option maxHeartbeats 4000000 in
set_option maxRecDepth 100000 in
theorem c_X12_isSmall (w : zWd) (S : List (Nat × Nat)) (x0 : Int32) (M : zM) : CT (zfI S M) w 1 mX12_isSmall [.int (x0)] (S, M) (gX12_isSmall S x0 M) := by
  refine CT.of (by decide) (Nat.le_of_ble_eq_true rfl) ?_
  show AJ _ _ _ _ 0 [(0, .int (x0))] [] _ _
  unfold gX12_isSmall
  refine aj_iload_n (0) dX12_isSmall_0 rfl rfl ?_
  refine aj_bipush (v := (97 : Int32)) dX12_isSmall_1 (by decide) ?_
  refine aj_icmp_lt (tgt := 16) dX12_isSmall_3 (by decide) (fun h => ?_) (fun h => ?_)
  · refine aj_iconst (v := (0 : Int32)) dX12_isSmall_16 (by decide) ?_
    exact aj_iret dX12_isSmall_17 rfl (by decide +kernel) rfl
  refine aj_iload_n (0) dX12_isSmall_6 rfl rfl ?_
  refine aj_bipush (v := (122 : Int32)) dX12_isSmall_7 (by decide) ?_
  refine aj_icmp_gt (tgt := 16) dX12_isSmall_9 (by decide) (fun h => ?_) (fun h => ?_)
  · refine aj_iconst (v := (0 : Int32)) dX12_isSmall_16 (by decide) ?_
    exact aj_iret dX12_isSmall_17 rfl (by decide +kernel) rfl
  refine aj_iconst (v := (1 : Int32)) dX12_isSmall_12 (by decide) ?_
  refine aj_goto (tgt := 17) dX12_isSmall_13 (by decide) ?_
  exact aj_iret dX12_isSmall_17 rfl (by decide +kernel) rfl
def gX12_isDigit (S : List (Nat × Nat)) (x0 : Int32) (M : zM) : Option Int32 := (if x0 < (48 : Int32) then some ((0 : Int32)) else (if (57 : Int32) < x0 then some ((0 : Int32)) else some ((1 : Int32))))
set_option maxHeartbeats 4000000 in
set_option maxRecDepth 100000 in
theorem c_X12_isDigit (w : zWd) (S : List (Nat × Nat)) (x0 : Int32) (M : zM) : CT (zfI S M) w 1 mX12_isDigit [.int (x0)] (S, M) (gX12_isDigit S x0 M) := by
  refine CT.of (by decide) (Nat.le_of_ble_eq_true rfl) ?_
  show AJ _ _ _ _ 0 [(0, .int (x0))] [] _ _
  unfold gX12_isDigit
  refine aj_iload_n (0) dX12_isDigit_0 rfl rfl ?_
  refine aj_bipush (v := (48 : Int32)) dX12_isDigit_1 (by decide) ?_
  refine aj_icmp_lt (tgt := 16) dX12_isDigit_3 (by decide) (fun h => ?_) (fun h => ?_)
  · refine aj_iconst (v := (0 : Int32)) dX12_isDigit_16 (by decide) ?_
    exact aj_iret dX12_isDigit_17 rfl (by decide +kernel) rfl
  refine aj_iload_n (0) dX12_isDigit_6 rfl rfl ?_
  refine aj_bipush (v := (57 : Int32)) dX12_isDigit_7 (by decide) ?_
  refine aj_icmp_gt (tgt := 16) dX12_isDigit_9 (by decide) (fun h => ?_) (fun h => ?_)
  · refine aj_iconst (v := (0 : Int32)) dX12_isDigit_16 (by decide) ?_
    exact aj_iret dX12_isDigit_17 rfl (by decide +kernel) rfl
  refine aj_iconst (v := (1 : Int32)) dX12_isDigit_12 (by decide) ?_
  refine aj_goto (tgt := 17) dX12_isDigit_13 (by decide) ?_
  exact aj_iret dX12_isDigit_17 rfl (by decide +kernel) rfl
def gX12_name_7 (S : List (Nat × Nat)) : Nat → Nat → Int32 → zM → Option zM
  | 0 => fun _ _ _ => none
  | n + 1 => fun p0 x1 M => (if (6 : Int32) ≤ x1 then some M else zgI S M (p0) 12 66 23 (fun v1 => zgI S M (p0) 12 66 21 (fun v2 => zgI S M (p0) 12 66 20 (fun v3 => (if v3 ≤ (v2 + x1) then zpI S M (p0) 12 66 23 (((v1 <<< ((5 : Int32) &&& 31)) ||| (0 : Int32))) (fun M4 => (gX12_name_7 S   n) (p0) ((x1 + (1 : Int32))) M4) else zgR S M (p0) 12 66 1 (fun r5 => zgI S M (p0) 12 66 21 (fun v6 => zaI S M 100 (r5) ((v6 + x1)) (fun v7 => zpI S M (p0) 12 66 23 (((v1 <<< ((5 : Int32) &&& 31)) ||| ((v7 - (97 : Int32)) + (1 : Int32)))) (fun M8 => (gX12_name_7 S   n) (p0) ((x1 + (1 : Int32))) M8)))))))))
set_option maxHeartbeats 4000000 in
set_option maxRecDepth 100000 in
theorem t_X12_name_7 (w : zWd) (S : List (Nat × Nat)) (fu : Nat) : ∀ (p0 : Nat) (x1 : Int32) (M : zM), AJ (zfVM S) w 1 mX12_name 7 [(0, .ref (p0)), (1, .int (x1))] [] (S, M) (gX12_name_7 S fu p0 x1 M) := by
  induction fu with
  | zero => intro p0 x1 M; exact AJ.none
  | succ n ih =>
    intro p0 x1 M
    unfold gX12_name_7
    refine aj_iload_n (1) dX12_name_7 rfl rfl ?_
    refine aj_bipush (v := (6 : Int32)) dX12_name_8 (by decide) ?_
    refine aj_icmp_ge (tgt := 63) dX12_name_10 (by decide) (fun h => ?_) (fun h => ?_)
    · exact aj_vret dX12_name_63 rfl rfl
    refine aj_aload_n (0) dX12_name_13 rfl rfl ?_
    refine aj_aload_n (0) dX12_name_14 rfl rfl ?_
    refine r_getI (TX := TX12) zc12 (by decide) rfl (Or.inl zg_1373) dX12_name_15 (fun v1 => ?_)
    refine aj_iconst (v := (5 : Int32)) dX12_name_18 (by decide) ?_
    refine aj_ishl dX12_name_19 ?_
    refine aj_aload_n (0) dX12_name_20 rfl rfl ?_
    refine r_getI (TX := TX12) zc12 (by decide) rfl (Or.inl zg_1371) dX12_name_21 (fun v2 => ?_)
    refine aj_iload_n (1) dX12_name_24 rfl rfl ?_
    refine aj_iadd dX12_name_25 ?_
    refine aj_aload_n (0) dX12_name_26 rfl rfl ?_
    refine r_getI (TX := TX12) zc12 (by decide) rfl (Or.inl zg_1370) dX12_name_27 (fun v3 => ?_)
    refine aj_icmp_ge (tgt := 52) dX12_name_30 (by decide) (fun h => ?_) (fun h => ?_)
    · refine aj_iconst (v := (0 : Int32)) dX12_name_52 (by decide) ?_
      refine aj_ior dX12_name_53 ?_
      refine r_putI (TX := TX12) zc12 (by decide) rfl rfl rfl rfl (Or.inl zg_1373) dX12_name_54 (fun M4 => ?_)
      refine aj_iinc (j := 1) (v := (x1 + (1 : Int32))) (ls2 := [(1, .int ((x1 + (1 : Int32)))), (0, .ref (p0))]) dX12_name_57 rfl rfl (Nat.le_of_ble_eq_true rfl) rfl ?_
      refine aj_goto (tgt := 7) dX12_name_60 (by decide) ?_
      refine AJ.sub [1, 0] rfl ?_
      exact ih (p0) ((x1 + (1 : Int32))) M4
    refine aj_aload_n (0) dX12_name_33 rfl rfl ?_
    refine aj_getR (TX := TX12) zc12 (by decide) rfl (Or.inl zg_1351) dX12_name_34 (fun r5 => ?_)
    refine aj_aload_n (0) dX12_name_37 rfl rfl ?_
    refine r_getI (TX := TX12) zc12 (by decide) rfl (Or.inl zg_1371) dX12_name_38 (fun v6 => ?_)
    refine aj_iload_n (1) dX12_name_41 rfl rfl ?_
    refine aj_iadd dX12_name_42 ?_
    refine r_iald dX12_name_43 (fun v7 => ?_)
    refine aj_bipush (v := (97 : Int32)) dX12_name_44 (by decide) ?_
    refine aj_isub dX12_name_46 ?_
    refine aj_iconst (v := (1 : Int32)) dX12_name_47 (by decide) ?_
    refine aj_iadd dX12_name_48 ?_
    refine aj_goto (tgt := 53) dX12_name_49 (by decide) ?_
    refine aj_ior dX12_name_53 ?_
    refine r_putI (TX := TX12) zc12 (by decide) rfl rfl rfl rfl (Or.inl zg_1373) dX12_name_54 (fun M8 => ?_)
    refine aj_iinc (j := 1) (v := (x1 + (1 : Int32))) (ls2 := [(1, .int ((x1 + (1 : Int32)))), (0, .ref (p0))]) dX12_name_57 rfl rfl (Nat.le_of_ble_eq_true rfl) rfl ?_
    refine aj_goto (tgt := 7) dX12_name_60 (by decide) ?_
    refine AJ.sub [1, 0] rfl ?_
    exact ih (p0) ((x1 + (1 : Int32))) M8
def gX12_name (S : List (Nat × Nat)) (p0 : Nat) (M : zM) : Option zM := zpI S M (p0) 12 66 23 ((0 : Int32)) (fun M1 => gX12_name_7 S zfu (p0) ((0 : Int32)) M1)
set_option maxHeartbeats 4000000 in
set_option maxRecDepth 100000 in
theorem c_X12_name (w : zWd) (S : List (Nat × Nat)) (p0 : Nat) (M : zM) : CT (zfVM S) w 1 mX12_name [.ref (p0)] (S, M) (gX12_name S p0 M) := by
  refine CT.of (by decide) (Nat.le_of_ble_eq_true rfl) ?_
  show AJ _ _ _ _ 0 [(0, .ref (p0))] [] _ _
  unfold gX12_name
  refine aj_aload_n (0) dX12_name_0 rfl rfl ?_
  refine aj_iconst (v := (0 : Int32)) dX12_name_1 (by decide) ?_
  refine r_putI (TX := TX12) zc12 (by decide) rfl rfl rfl rfl (Or.inl zg_1373) dX12_name_2 (fun M1 => ?_)
  refine aj_iconst (v := (0 : Int32)) dX12_name_5 (by decide) ?_
  refine aj_istore_n (ls2 := [(1, .int ((0 : Int32))), (0, .ref (p0))]) dX12_name_6 rfl (Nat.le_of_ble_eq_true rfl) rfl ?_
  refine AJ.sub [1, 0] rfl ?_
  exact t_X12_name_7 w S zfu (p0) ((0 : Int32)) M1
def gX12_sign_128 (S : List (Nat × Nat)) (p0 : Nat) (x1 : Int32) (M : zM) : Option zM := (if x1 = (62 : Int32) then zrc S (p0) 12 66 ((gX12_here S (p0) M).bind (fun v4 => (if v4 = (61 : Int32) then zpI S M (p0) 12 66 23 ((258 : Int32)) (fun M8 => zgI S M8 (p0) 12 66 23 (fun v9 => (if v9 < (256 : Int32) then some M8 else zgI S M8 (p0) 12 66 20 (fun v10 => zpI S M8 (p0) 12 66 20 ((v10 + (1 : Int32))) (fun M11 => some M11))))) else zgI S M (p0) 12 66 23 (fun v5 => (if v5 < (256 : Int32) then some M else zgI S M (p0) 12 66 20 (fun v6 => zpI S M (p0) 12 66 20 ((v6 + (1 : Int32))) (fun M7 => some M7))))))) else zgI S M (p0) 12 66 23 (fun v1 => (if v1 < (256 : Int32) then some M else zgI S M (p0) 12 66 20 (fun v2 => zpI S M (p0) 12 66 20 ((v2 + (1 : Int32))) (fun M3 => some M3)))))
set_option maxHeartbeats 4000000 in
set_option maxRecDepth 100000 in
theorem t_X12_sign_128 (w : zWd) (S : List (Nat × Nat)) (p0 : Nat) (x1 : Int32) (M : zM) : AJ (zfVM S) w 2 mX12_sign 128 [(0, .ref (p0)), (1, .int (x1))] [] (S, M) (gX12_sign_128 S p0 x1 M) := by
  unfold gX12_sign_128
  refine aj_iload_n (1) dX12_sign_128 rfl rfl ?_
  refine aj_bipush (v := (62 : Int32)) dX12_sign_129 (by decide) ?_
  refine aj_icmp_ne (tgt := 150) dX12_sign_131 (by decide) (fun h => ?_) (fun h => ?_)
  · refine aj_aload_n (0) dX12_sign_150 rfl rfl ?_
    refine r_getI (TX := TX12) zc12 (by decide) rfl (Or.inl zg_1373) dX12_sign_151 (fun v1 => ?_)
    refine aj_sipush (v := (256 : Int32)) dX12_sign_154 (by decide) ?_
    refine aj_icmp_lt (tgt := 170) dX12_sign_157 (by decide) (fun h => ?_) (fun h => ?_)
    · exact aj_vret dX12_sign_170 rfl rfl
    refine aj_aload_n (0) dX12_sign_160 rfl rfl ?_
    refine aj_dup dX12_sign_161 rfl ?_
    refine r_getI (TX := TX12) zc12 (by decide) rfl (Or.inl zg_1370) dX12_sign_162 (fun v2 => ?_)
    refine aj_iconst (v := (1 : Int32)) dX12_sign_165 (by decide) ?_
    refine aj_iadd dX12_sign_166 ?_
    refine r_putI (TX := TX12) zc12 (by decide) rfl rfl rfl rfl (Or.inl zg_1370) dX12_sign_167 (fun M3 => ?_)
    exact aj_vret dX12_sign_170 rfl rfl
  refine aj_aload_n (0) dX12_sign_134 rfl rfl ?_
  refine rV_I (as := []) (c_X12_here w S _ _) mv_X12_here rfl zg_1570 (by decide) (Nat.le_of_ble_eq_true rfl) dX12_sign_135 (fun v4 => ?_)
  refine aj_bipush (v := (61 : Int32)) dX12_sign_138 (by decide) ?_
  refine aj_icmp_ne (tgt := 150) dX12_sign_140 (by decide) (fun h => ?_) (fun h => ?_)
  · refine aj_aload_n (0) dX12_sign_150 rfl rfl ?_
    refine r_getI (TX := TX12) zc12 (by decide) rfl (Or.inl zg_1373) dX12_sign_151 (fun v5 => ?_)
    refine aj_sipush (v := (256 : Int32)) dX12_sign_154 (by decide) ?_
    refine aj_icmp_lt (tgt := 170) dX12_sign_157 (by decide) (fun h => ?_) (fun h => ?_)
    · exact aj_vret dX12_sign_170 rfl rfl
    refine aj_aload_n (0) dX12_sign_160 rfl rfl ?_
    refine aj_dup dX12_sign_161 rfl ?_
    refine r_getI (TX := TX12) zc12 (by decide) rfl (Or.inl zg_1370) dX12_sign_162 (fun v6 => ?_)
    refine aj_iconst (v := (1 : Int32)) dX12_sign_165 (by decide) ?_
    refine aj_iadd dX12_sign_166 ?_
    refine r_putI (TX := TX12) zc12 (by decide) rfl rfl rfl rfl (Or.inl zg_1370) dX12_sign_167 (fun M7 => ?_)
    exact aj_vret dX12_sign_170 rfl rfl
  refine aj_aload_n (0) dX12_sign_143 rfl rfl ?_
  refine aj_sipush (v := (258 : Int32)) dX12_sign_144 (by decide) ?_
  refine r_putI (TX := TX12) zc12 (by decide) rfl rfl rfl rfl (Or.inl zg_1373) dX12_sign_147 (fun M8 => ?_)
  refine aj_aload_n (0) dX12_sign_150 rfl rfl ?_
  refine r_getI (TX := TX12) zc12 (by decide) rfl (Or.inl zg_1373) dX12_sign_151 (fun v9 => ?_)
  refine aj_sipush (v := (256 : Int32)) dX12_sign_154 (by decide) ?_
  refine aj_icmp_lt (tgt := 170) dX12_sign_157 (by decide) (fun h => ?_) (fun h => ?_)
  · exact aj_vret dX12_sign_170 rfl rfl
  refine aj_aload_n (0) dX12_sign_160 rfl rfl ?_
  refine aj_dup dX12_sign_161 rfl ?_
  refine r_getI (TX := TX12) zc12 (by decide) rfl (Or.inl zg_1370) dX12_sign_162 (fun v10 => ?_)
  refine aj_iconst (v := (1 : Int32)) dX12_sign_165 (by decide) ?_
  refine aj_iadd dX12_sign_166 ?_
  refine r_putI (TX := TX12) zc12 (by decide) rfl rfl rfl rfl (Or.inl zg_1370) dX12_sign_167 (fun M11 => ?_)
  exact aj_vret dX12_sign_170 rfl rfl
def gX12_sign_76 (S : List (Nat × Nat)) (p0 : Nat) (x1 : Int32) (x0s : Int32) (p1s : Nat) (M : zM) : Option zM := zpI S M (p1s) 12 66 22 (x0s) (fun M1 => zpI S M1 (p0) 12 66 23 (x1) (fun M2 => (if x1 = (60 : Int32) then zrc S (p0) 12 66 ((gX12_here S (p0) M2).bind (fun v5 => (if v5 = (61 : Int32) then zpI S M2 (p0) 12 66 23 ((256 : Int32)) (fun M8 => (if x1 = (60 : Int32) then zrc S (p0) 12 66 ((gX12_here S (p0) M8).bind (fun v9 => (if v9 = (62 : Int32) then zpI S M8 (p0) 12 66 23 ((257 : Int32)) (fun M10 => gX12_sign_128 S (p0) (x1) M10) else gX12_sign_128 S (p0) (x1) M8))) else gX12_sign_128 S (p0) (x1) M8)) else (if x1 = (60 : Int32) then zrc S (p0) 12 66 ((gX12_here S (p0) M2).bind (fun v6 => (if v6 = (62 : Int32) then zpI S M2 (p0) 12 66 23 ((257 : Int32)) (fun M7 => gX12_sign_128 S (p0) (x1) M7) else gX12_sign_128 S (p0) (x1) M2))) else gX12_sign_128 S (p0) (x1) M2)))) else (if x1 = (60 : Int32) then zrc S (p0) 12 66 ((gX12_here S (p0) M2).bind (fun v3 => (if v3 = (62 : Int32) then zpI S M2 (p0) 12 66 23 ((257 : Int32)) (fun M4 => gX12_sign_128 S (p0) (x1) M4) else gX12_sign_128 S (p0) (x1) M2))) else gX12_sign_128 S (p0) (x1) M2))))
set_option maxHeartbeats 4000000 in
set_option maxRecDepth 100000 in
theorem t_X12_sign_76 (w : zWd) (S : List (Nat × Nat)) (p0 : Nat) (x1 : Int32) (x0s : Int32) (p1s : Nat) (M : zM) : AJ (zfVM S) w 2 mX12_sign 76 [(0, .ref (p0)), (1, .int (x1))] [.int (x0s), .ref (p1s)] (S, M) (gX12_sign_76 S p0 x1 x0s p1s M) := by
  unfold gX12_sign_76
  refine r_putI (TX := TX12) zc12 (by decide) rfl rfl rfl rfl (Or.inl zg_1372) dX12_sign_76 (fun M1 => ?_)
  refine aj_aload_n (0) dX12_sign_79 rfl rfl ?_
  refine aj_iload_n (1) dX12_sign_80 rfl rfl ?_
  refine r_putI (TX := TX12) zc12 (by decide) rfl rfl rfl rfl (Or.inl zg_1373) dX12_sign_81 (fun M2 => ?_)
  refine aj_iload_n (1) dX12_sign_84 rfl rfl ?_
  refine aj_bipush (v := (60 : Int32)) dX12_sign_85 (by decide) ?_
  refine aj_icmp_ne (tgt := 106) dX12_sign_87 (by decide) (fun h => ?_) (fun h => ?_)
  · refine aj_iload_n (1) dX12_sign_106 rfl rfl ?_
    refine aj_bipush (v := (60 : Int32)) dX12_sign_107 (by decide) ?_
    refine aj_icmp_ne (tgt := 128) dX12_sign_109 (by decide) (fun h => ?_) (fun h => ?_)
    · refine AJ.sub [0, 1] rfl ?_
      exact t_X12_sign_128 w S (p0) (x1) M2
    refine aj_aload_n (0) dX12_sign_112 rfl rfl ?_
    refine rV_I (as := []) (c_X12_here w S _ _) mv_X12_here rfl zg_1570 (by decide) (Nat.le_of_ble_eq_true rfl) dX12_sign_113 (fun v3 => ?_)
    refine aj_bipush (v := (62 : Int32)) dX12_sign_116 (by decide) ?_
    refine aj_icmp_ne (tgt := 128) dX12_sign_118 (by decide) (fun h => ?_) (fun h => ?_)
    · refine AJ.sub [0, 1] rfl ?_
      exact t_X12_sign_128 w S (p0) (x1) M2
    refine aj_aload_n (0) dX12_sign_121 rfl rfl ?_
    refine aj_sipush (v := (257 : Int32)) dX12_sign_122 (by decide) ?_
    refine r_putI (TX := TX12) zc12 (by decide) rfl rfl rfl rfl (Or.inl zg_1373) dX12_sign_125 (fun M4 => ?_)
    refine AJ.sub [0, 1] rfl ?_
    exact t_X12_sign_128 w S (p0) (x1) M4
  refine aj_aload_n (0) dX12_sign_90 rfl rfl ?_
  refine rV_I (as := []) (c_X12_here w S _ _) mv_X12_here rfl zg_1570 (by decide) (Nat.le_of_ble_eq_true rfl) dX12_sign_91 (fun v5 => ?_)
  refine aj_bipush (v := (61 : Int32)) dX12_sign_94 (by decide) ?_
  refine aj_icmp_ne (tgt := 106) dX12_sign_96 (by decide) (fun h => ?_) (fun h => ?_)
  · refine aj_iload_n (1) dX12_sign_106 rfl rfl ?_
    refine aj_bipush (v := (60 : Int32)) dX12_sign_107 (by decide) ?_
    refine aj_icmp_ne (tgt := 128) dX12_sign_109 (by decide) (fun h => ?_) (fun h => ?_)
    · refine AJ.sub [0, 1] rfl ?_
      exact t_X12_sign_128 w S (p0) (x1) M2
    refine aj_aload_n (0) dX12_sign_112 rfl rfl ?_
    refine rV_I (as := []) (c_X12_here w S _ _) mv_X12_here rfl zg_1570 (by decide) (Nat.le_of_ble_eq_true rfl) dX12_sign_113 (fun v6 => ?_)
    refine aj_bipush (v := (62 : Int32)) dX12_sign_116 (by decide) ?_
    refine aj_icmp_ne (tgt := 128) dX12_sign_118 (by decide) (fun h => ?_) (fun h => ?_)
    · refine AJ.sub [0, 1] rfl ?_
      exact t_X12_sign_128 w S (p0) (x1) M2
    refine aj_aload_n (0) dX12_sign_121 rfl rfl ?_
    refine aj_sipush (v := (257 : Int32)) dX12_sign_122 (by decide) ?_
    refine r_putI (TX := TX12) zc12 (by decide) rfl rfl rfl rfl (Or.inl zg_1373) dX12_sign_125 (fun M7 => ?_)
    refine AJ.sub [0, 1] rfl ?_
    exact t_X12_sign_128 w S (p0) (x1) M7
  refine aj_aload_n (0) dX12_sign_99 rfl rfl ?_
  refine aj_sipush (v := (256 : Int32)) dX12_sign_100 (by decide) ?_
  refine r_putI (TX := TX12) zc12 (by decide) rfl rfl rfl rfl (Or.inl zg_1373) dX12_sign_103 (fun M8 => ?_)
  refine aj_iload_n (1) dX12_sign_106 rfl rfl ?_
  refine aj_bipush (v := (60 : Int32)) dX12_sign_107 (by decide) ?_
  refine aj_icmp_ne (tgt := 128) dX12_sign_109 (by decide) (fun h => ?_) (fun h => ?_)
  · refine AJ.sub [0, 1] rfl ?_
    exact t_X12_sign_128 w S (p0) (x1) M8
  refine aj_aload_n (0) dX12_sign_112 rfl rfl ?_
  refine rV_I (as := []) (c_X12_here w S _ _) mv_X12_here rfl zg_1570 (by decide) (Nat.le_of_ble_eq_true rfl) dX12_sign_113 (fun v9 => ?_)
  refine aj_bipush (v := (62 : Int32)) dX12_sign_116 (by decide) ?_
  refine aj_icmp_ne (tgt := 128) dX12_sign_118 (by decide) (fun h => ?_) (fun h => ?_)
  · refine AJ.sub [0, 1] rfl ?_
    exact t_X12_sign_128 w S (p0) (x1) M8
  refine aj_aload_n (0) dX12_sign_121 rfl rfl ?_
  refine aj_sipush (v := (257 : Int32)) dX12_sign_122 (by decide) ?_
  refine r_putI (TX := TX12) zc12 (by decide) rfl rfl rfl rfl (Or.inl zg_1373) dX12_sign_125 (fun M10 => ?_)
  refine AJ.sub [0, 1] rfl ?_
  exact t_X12_sign_128 w S (p0) (x1) M10
def gX12_sign (S : List (Nat × Nat)) (p0 : Nat) (x1 : Int32) (M : zM) : Option zM := zgI S M (p0) 12 66 20 (fun v1 => zpI S M (p0) 12 66 20 ((v1 + (1 : Int32))) (fun M2 => (if x1 = (59 : Int32) then gX12_sign_76 S (p0) (x1) ((3 : Int32)) (p0) M2 else (if x1 = (40 : Int32) then gX12_sign_76 S (p0) (x1) ((3 : Int32)) (p0) M2 else (if x1 = (41 : Int32) then gX12_sign_76 S (p0) (x1) ((3 : Int32)) (p0) M2 else (if x1 = (43 : Int32) then gX12_sign_76 S (p0) (x1) ((3 : Int32)) (p0) M2 else (if x1 = (45 : Int32) then gX12_sign_76 S (p0) (x1) ((3 : Int32)) (p0) M2 else (if x1 = (42 : Int32) then gX12_sign_76 S (p0) (x1) ((3 : Int32)) (p0) M2 else (if x1 = (47 : Int32) then gX12_sign_76 S (p0) (x1) ((3 : Int32)) (p0) M2 else (if x1 = (60 : Int32) then gX12_sign_76 S (p0) (x1) ((3 : Int32)) (p0) M2 else (if x1 = (61 : Int32) then gX12_sign_76 S (p0) (x1) ((3 : Int32)) (p0) M2 else (if x1 = (62 : Int32) then gX12_sign_76 S (p0) (x1) ((3 : Int32)) (p0) M2 else gX12_sign_76 S (p0) (x1) ((5 : Int32)) (p0) M2))))))))))))
set_option maxHeartbeats 4000000 in
set_option maxRecDepth 100000 in
theorem c_X12_sign (w : zWd) (S : List (Nat × Nat)) (p0 : Nat) (x1 : Int32) (M : zM) : CT (zfVM S) w 2 mX12_sign [.ref (p0), .int (x1)] (S, M) (gX12_sign S p0 x1 M) := by
  refine CT.of (by decide) (Nat.le_of_ble_eq_true rfl) ?_
  show AJ _ _ _ _ 0 [(0, .ref (p0)), (1, .int (x1))] [] _ _
  unfold gX12_sign
  refine aj_aload_n (0) dX12_sign_0 rfl rfl ?_
  refine aj_dup dX12_sign_1 rfl ?_
  refine r_getI (TX := TX12) zc12 (by decide) rfl (Or.inl zg_1370) dX12_sign_2 (fun v1 => ?_)
  refine aj_iconst (v := (1 : Int32)) dX12_sign_5 (by decide) ?_
  refine aj_iadd dX12_sign_6 ?_
  refine r_putI (TX := TX12) zc12 (by decide) rfl rfl rfl rfl (Or.inl zg_1370) dX12_sign_7 (fun M2 => ?_)
  refine aj_aload_n (0) dX12_sign_10 rfl rfl ?_
  refine aj_iload_n (1) dX12_sign_11 rfl rfl ?_
  refine aj_bipush (v := (59 : Int32)) dX12_sign_12 (by decide) ?_
  refine aj_icmp_eq (tgt := 71) dX12_sign_14 (by decide) (fun h => ?_) (fun h => ?_)
  · refine aj_iconst (v := (3 : Int32)) dX12_sign_71 (by decide) ?_
    refine aj_goto (tgt := 76) dX12_sign_72 (by decide) ?_
    refine AJ.sub [0, 1] rfl ?_
    exact t_X12_sign_76 w S (p0) (x1) ((3 : Int32)) (p0) M2
  refine aj_iload_n (1) dX12_sign_17 rfl rfl ?_
  refine aj_bipush (v := (40 : Int32)) dX12_sign_18 (by decide) ?_
  refine aj_icmp_eq (tgt := 71) dX12_sign_20 (by decide) (fun h => ?_) (fun h => ?_)
  · refine aj_iconst (v := (3 : Int32)) dX12_sign_71 (by decide) ?_
    refine aj_goto (tgt := 76) dX12_sign_72 (by decide) ?_
    refine AJ.sub [0, 1] rfl ?_
    exact t_X12_sign_76 w S (p0) (x1) ((3 : Int32)) (p0) M2
  refine aj_iload_n (1) dX12_sign_23 rfl rfl ?_
  refine aj_bipush (v := (41 : Int32)) dX12_sign_24 (by decide) ?_
  refine aj_icmp_eq (tgt := 71) dX12_sign_26 (by decide) (fun h => ?_) (fun h => ?_)
  · refine aj_iconst (v := (3 : Int32)) dX12_sign_71 (by decide) ?_
    refine aj_goto (tgt := 76) dX12_sign_72 (by decide) ?_
    refine AJ.sub [0, 1] rfl ?_
    exact t_X12_sign_76 w S (p0) (x1) ((3 : Int32)) (p0) M2
  refine aj_iload_n (1) dX12_sign_29 rfl rfl ?_
  refine aj_bipush (v := (43 : Int32)) dX12_sign_30 (by decide) ?_
  refine aj_icmp_eq (tgt := 71) dX12_sign_32 (by decide) (fun h => ?_) (fun h => ?_)
  · refine aj_iconst (v := (3 : Int32)) dX12_sign_71 (by decide) ?_
    refine aj_goto (tgt := 76) dX12_sign_72 (by decide) ?_
    refine AJ.sub [0, 1] rfl ?_
    exact t_X12_sign_76 w S (p0) (x1) ((3 : Int32)) (p0) M2
  refine aj_iload_n (1) dX12_sign_35 rfl rfl ?_
  refine aj_bipush (v := (45 : Int32)) dX12_sign_36 (by decide) ?_
  refine aj_icmp_eq (tgt := 71) dX12_sign_38 (by decide) (fun h => ?_) (fun h => ?_)
  · refine aj_iconst (v := (3 : Int32)) dX12_sign_71 (by decide) ?_
    refine aj_goto (tgt := 76) dX12_sign_72 (by decide) ?_
    refine AJ.sub [0, 1] rfl ?_
    exact t_X12_sign_76 w S (p0) (x1) ((3 : Int32)) (p0) M2
  refine aj_iload_n (1) dX12_sign_41 rfl rfl ?_
  refine aj_bipush (v := (42 : Int32)) dX12_sign_42 (by decide) ?_
  refine aj_icmp_eq (tgt := 71) dX12_sign_44 (by decide) (fun h => ?_) (fun h => ?_)
  · refine aj_iconst (v := (3 : Int32)) dX12_sign_71 (by decide) ?_
    refine aj_goto (tgt := 76) dX12_sign_72 (by decide) ?_
    refine AJ.sub [0, 1] rfl ?_
    exact t_X12_sign_76 w S (p0) (x1) ((3 : Int32)) (p0) M2
  refine aj_iload_n (1) dX12_sign_47 rfl rfl ?_
  refine aj_bipush (v := (47 : Int32)) dX12_sign_48 (by decide) ?_
  refine aj_icmp_eq (tgt := 71) dX12_sign_50 (by decide) (fun h => ?_) (fun h => ?_)
  · refine aj_iconst (v := (3 : Int32)) dX12_sign_71 (by decide) ?_
    refine aj_goto (tgt := 76) dX12_sign_72 (by decide) ?_
    refine AJ.sub [0, 1] rfl ?_
    exact t_X12_sign_76 w S (p0) (x1) ((3 : Int32)) (p0) M2
  refine aj_iload_n (1) dX12_sign_53 rfl rfl ?_
  refine aj_bipush (v := (60 : Int32)) dX12_sign_54 (by decide) ?_
  refine aj_icmp_eq (tgt := 71) dX12_sign_56 (by decide) (fun h => ?_) (fun h => ?_)
  · refine aj_iconst (v := (3 : Int32)) dX12_sign_71 (by decide) ?_
    refine aj_goto (tgt := 76) dX12_sign_72 (by decide) ?_
    refine AJ.sub [0, 1] rfl ?_
    exact t_X12_sign_76 w S (p0) (x1) ((3 : Int32)) (p0) M2
  refine aj_iload_n (1) dX12_sign_59 rfl rfl ?_
  refine aj_bipush (v := (61 : Int32)) dX12_sign_60 (by decide) ?_
  refine aj_icmp_eq (tgt := 71) dX12_sign_62 (by decide) (fun h => ?_) (fun h => ?_)
  · refine aj_iconst (v := (3 : Int32)) dX12_sign_71 (by decide) ?_
    refine aj_goto (tgt := 76) dX12_sign_72 (by decide) ?_
    refine AJ.sub [0, 1] rfl ?_
    exact t_X12_sign_76 w S (p0) (x1) ((3 : Int32)) (p0) M2
  refine aj_iload_n (1) dX12_sign_65 rfl rfl ?_
  refine aj_bipush (v := (62 : Int32)) dX12_sign_66 (by decide) ?_
  refine aj_icmp_ne (tgt := 75) dX12_sign_68 (by decide) (fun h => ?_) (fun h => ?_)
  · refine aj_iconst (v := (5 : Int32)) dX12_sign_75 (by decide) ?_
    refine AJ.sub [0, 1] rfl ?_
    exact t_X12_sign_76 w S (p0) (x1) ((5 : Int32)) (p0) M2
  refine aj_iconst (v := (3 : Int32)) dX12_sign_71 (by decide) ?_
  refine aj_goto (tgt := 76) dX12_sign_72 (by decide) ?_
  refine AJ.sub [0, 1] rfl ?_
  exact t_X12_sign_76 w S (p0) (x1) ((3 : Int32)) (p0) M2
def gX12_word_97 (S : List (Nat × Nat)) (k4 : Nat → Int32 → Int32 → zM → Option Int32) : Nat → Nat → Int32 → Int32 → zM → Option Int32
  | 0 => fun _ _ _ _ => none
  | n + 1 => fun p0 x1 x2 M => zsC zT2 (x2) (fun v1 => (if v1 = (32 : Int32) then k4 (p0) ((x1 + (1 : Int32))) ((x2 + (1 : Int32))) M else (gX12_word_97 S  k4 n) (p0) (x1) ((x2 + (1 : Int32))) M))
set_option maxHeartbeats 4000000 in
set_option maxRecDepth 100000 in
theorem t_X12_word_97 (w : zWd) (hz : zSZ w) (S : List (Nat × Nat)) (k4 : Nat → Int32 → Int32 → zM → Option Int32) (hk4 : ∀ (p0 : Nat) (x1 : Int32) (x2 : Int32) (M : zM), AJ (zfI S M) w 5 mX12_word 4 [(0, .ref (p0)), (1, .int (x1)), (2, .int (x2))] [] (S, M) (k4 p0 x1 x2 M)) (fu : Nat) : ∀ (p0 : Nat) (x1 : Int32) (x2 : Int32) (M : zM), AJ (zfI S M) w 5 mX12_word 97 [(0, .ref (p0)), (1, .int (x1)), (2, .int (x2))] [] (S, M) (gX12_word_97 S k4 fu p0 x1 x2 M) := by
  induction fu with
  | zero => intro p0 x1 x2 M; exact AJ.none
  | succ n ih =>
    intro p0 x1 x2 M
    unfold gX12_word_97
    refine r_chA (Ws := zT2) (2) (fun s h => (hz s h).2.2) zT2_ok zg_1583 (by decide) (Nat.le_of_ble_eq_true rfl) dX12_word_97 dX12_word_99 rfl rfl dX12_word_100 (fun v1 => ?_)
    refine aj_bipush (v := (32 : Int32)) dX12_word_103 (by decide) ?_
    refine aj_icmp_eq (tgt := 114) dX12_word_105 (by decide) (fun h => ?_) (fun h => ?_)
    · refine aj_iinc (j := 2) (v := (x2 + (1 : Int32))) (ls2 := [(2, .int ((x2 + (1 : Int32)))), (0, .ref (p0)), (1, .int (x1))]) dX12_word_114 rfl rfl (Nat.le_of_ble_eq_true rfl) rfl ?_
      refine aj_iinc (j := 2) (v := (x1 + (1 : Int32))) (ls2 := [(1, .int ((x1 + (1 : Int32)))), (2, .int ((x2 + (1 : Int32)))), (0, .ref (p0))]) dX12_word_117 rfl rfl (Nat.le_of_ble_eq_true rfl) rfl ?_
      refine aj_goto (tgt := 4) dX12_word_120 (by decide) ?_
      refine AJ.sub [2, 0, 1] rfl ?_
      exact hk4 (p0) ((x1 + (1 : Int32))) ((x2 + (1 : Int32))) M
    refine aj_iinc (j := 2) (v := (x2 + (1 : Int32))) (ls2 := [(2, .int ((x2 + (1 : Int32)))), (0, .ref (p0)), (1, .int (x1))]) dX12_word_108 rfl rfl (Nat.le_of_ble_eq_true rfl) rfl ?_
    refine aj_goto (tgt := 97) dX12_word_111 (by decide) ?_
    refine AJ.sub [1, 2, 0] rfl ?_
    exact ih (p0) (x1) ((x2 + (1 : Int32))) M
def gX12_word_69 (S : List (Nat × Nat)) (k4 : Nat → Int32 → Int32 → zM → Option Int32) (p0 : Nat) (x1 : Int32) (x2 : Int32) (x3 : Int32) (M : zM) : Option Int32 := zsC zT2 (x2 + x3) (fun v1 => (if v1 = (32 : Int32) then zgI S M (p0) 12 66 21 (fun v2 => zgI S M (p0) 12 66 20 (fun v3 => (if (v2 + x3) = v3 then some (x1) else gX12_word_97 S k4 zfu (p0) (x1) (x2) M))) else gX12_word_97 S k4 zfu (p0) (x1) (x2) M))
set_option maxHeartbeats 4000000 in
set_option maxRecDepth 100000 in
theorem t_X12_word_69 (w : zWd) (hz : zSZ w) (S : List (Nat × Nat)) (k4 : Nat → Int32 → Int32 → zM → Option Int32) (hk4 : ∀ (p0 : Nat) (x1 : Int32) (x2 : Int32) (M : zM), AJ (zfI S M) w 5 mX12_word 4 [(0, .ref (p0)), (1, .int (x1)), (2, .int (x2))] [] (S, M) (k4 p0 x1 x2 M)) (p0 : Nat) (x1 : Int32) (x2 : Int32) (x3 : Int32) (M : zM) : AJ (zfI S M) w 5 mX12_word 69 [(0, .ref (p0)), (1, .int (x1)), (2, .int (x2)), (3, .int (x3))] [] (S, M) (gX12_word_69 S k4 p0 x1 x2 x3 M) := by
  unfold gX12_word_69
  refine r_chB (Ws := zT2) (2) (3) (fun s h => (hz s h).2.2) zT2_ok zg_1583 (by decide) (Nat.le_of_ble_eq_true rfl) dX12_word_69 dX12_word_71 rfl rfl dX12_word_72 rfl rfl dX12_word_73 dX12_word_74 (fun v1 => ?_)
  refine aj_bipush (v := (32 : Int32)) dX12_word_77 (by decide) ?_
  refine aj_icmp_ne (tgt := 97) dX12_word_79 (by decide) (fun h => ?_) (fun h => ?_)
  · refine AJ.sub [0, 1, 2] rfl ?_
    exact t_X12_word_97 w hz S k4 hk4 zfu (p0) (x1) (x2) M
  refine aj_aload_n (0) dX12_word_82 rfl rfl ?_
  refine r_getI (TX := TX12) zc12 (by decide) rfl (Or.inl zg_1371) dX12_word_83 (fun v2 => ?_)
  refine aj_iload_n (3) dX12_word_86 rfl rfl ?_
  refine aj_iadd dX12_word_87 ?_
  refine aj_aload_n (0) dX12_word_88 rfl rfl ?_
  refine r_getI (TX := TX12) zc12 (by decide) rfl (Or.inl zg_1370) dX12_word_89 (fun v3 => ?_)
  refine aj_icmp_ne (tgt := 97) dX12_word_92 (by decide) (fun h => ?_) (fun h => ?_)
  · refine AJ.sub [0, 1, 2] rfl ?_
    exact t_X12_word_97 w hz S k4 hk4 zfu (p0) (x1) (x2) M
  refine aj_iload_n (1) dX12_word_95 rfl rfl ?_
  exact aj_iret dX12_word_96 rfl rfl rfl
def gX12_word_15 (S : List (Nat × Nat)) (k4 : Nat → Int32 → Int32 → zM → Option Int32) : Nat → Nat → Int32 → Int32 → Int32 → zM → Option Int32
  | 0 => fun _ _ _ _ _ => none
  | n + 1 => fun p0 x1 x2 x3 M => zsC zT2 (x2 + x3) (fun v1 => (if v1 = (32 : Int32) then gX12_word_69 S k4 (p0) (x1) (x2) (x3) M else zgI S M (p0) 12 66 21 (fun v2 => zgI S M (p0) 12 66 20 (fun v3 => (if v3 ≤ (v2 + x3) then gX12_word_69 S k4 (p0) (x1) (x2) (x3) M else zgR S M (p0) 12 66 1 (fun r4 => zgI S M (p0) 12 66 21 (fun v5 => zaI S M 100 (r4) ((v5 + x3)) (fun v6 => zsC zT2 (x2 + x3) (fun v7 => (if v6 = v7 then (gX12_word_15 S  k4 n) (p0) (x1) (x2) ((x3 + (1 : Int32))) M else gX12_word_69 S k4 (p0) (x1) (x2) (x3) M))))))))))
set_option maxHeartbeats 4000000 in
set_option maxRecDepth 100000 in
theorem t_X12_word_15 (w : zWd) (hz : zSZ w) (S : List (Nat × Nat)) (k4 : Nat → Int32 → Int32 → zM → Option Int32) (hk4 : ∀ (p0 : Nat) (x1 : Int32) (x2 : Int32) (M : zM), AJ (zfI S M) w 5 mX12_word 4 [(0, .ref (p0)), (1, .int (x1)), (2, .int (x2))] [] (S, M) (k4 p0 x1 x2 M)) (fu : Nat) : ∀ (p0 : Nat) (x1 : Int32) (x2 : Int32) (x3 : Int32) (M : zM), AJ (zfI S M) w 5 mX12_word 15 [(0, .ref (p0)), (1, .int (x1)), (2, .int (x2)), (3, .int (x3))] [] (S, M) (gX12_word_15 S k4 fu p0 x1 x2 x3 M) := by
  induction fu with
  | zero => intro p0 x1 x2 x3 M; exact AJ.none
  | succ n ih =>
    intro p0 x1 x2 x3 M
    unfold gX12_word_15
    refine r_chB (Ws := zT2) (2) (3) (fun s h => (hz s h).2.2) zT2_ok zg_1583 (by decide) (Nat.le_of_ble_eq_true rfl) dX12_word_15 dX12_word_17 rfl rfl dX12_word_18 rfl rfl dX12_word_19 dX12_word_20 (fun v1 => ?_)
    refine aj_bipush (v := (32 : Int32)) dX12_word_23 (by decide) ?_
    refine aj_icmp_eq (tgt := 69) dX12_word_25 (by decide) (fun h => ?_) (fun h => ?_)
    · refine AJ.sub [0, 1, 2, 3] rfl ?_
      exact t_X12_word_69 w hz S k4 hk4 (p0) (x1) (x2) (x3) M
    refine aj_aload_n (0) dX12_word_28 rfl rfl ?_
    refine r_getI (TX := TX12) zc12 (by decide) rfl (Or.inl zg_1371) dX12_word_29 (fun v2 => ?_)
    refine aj_iload_n (3) dX12_word_32 rfl rfl ?_
    refine aj_iadd dX12_word_33 ?_
    refine aj_aload_n (0) dX12_word_34 rfl rfl ?_
    refine r_getI (TX := TX12) zc12 (by decide) rfl (Or.inl zg_1370) dX12_word_35 (fun v3 => ?_)
    refine aj_icmp_ge (tgt := 69) dX12_word_38 (by decide) (fun h => ?_) (fun h => ?_)
    · refine AJ.sub [0, 1, 2, 3] rfl ?_
      exact t_X12_word_69 w hz S k4 hk4 (p0) (x1) (x2) (x3) M
    refine aj_aload_n (0) dX12_word_41 rfl rfl ?_
    refine aj_getR (TX := TX12) zc12 (by decide) rfl (Or.inl zg_1351) dX12_word_42 (fun r4 => ?_)
    refine aj_aload_n (0) dX12_word_45 rfl rfl ?_
    refine r_getI (TX := TX12) zc12 (by decide) rfl (Or.inl zg_1371) dX12_word_46 (fun v5 => ?_)
    refine aj_iload_n (3) dX12_word_49 rfl rfl ?_
    refine aj_iadd dX12_word_50 ?_
    refine r_iald dX12_word_51 (fun v6 => ?_)
    refine r_chB (Ws := zT2) (2) (3) (fun s h => (hz s h).2.2) zT2_ok zg_1583 (by decide) (Nat.le_of_ble_eq_true rfl) dX12_word_52 dX12_word_54 rfl rfl dX12_word_55 rfl rfl dX12_word_56 dX12_word_57 (fun v7 => ?_)
    refine aj_icmp_ne (tgt := 69) dX12_word_60 (by decide) (fun h => ?_) (fun h => ?_)
    · refine AJ.sub [0, 1, 2, 3] rfl ?_
      exact t_X12_word_69 w hz S k4 hk4 (p0) (x1) (x2) (x3) M
    refine aj_iinc (j := 3) (v := (x3 + (1 : Int32))) (ls2 := [(3, .int ((x3 + (1 : Int32)))), (0, .ref (p0)), (1, .int (x1)), (2, .int (x2))]) dX12_word_63 rfl rfl (Nat.le_of_ble_eq_true rfl) rfl ?_
    refine aj_goto (tgt := 15) dX12_word_66 (by decide) ?_
    refine AJ.sub [1, 2, 3, 0] rfl ?_
    exact ih (p0) (x1) (x2) ((x3 + (1 : Int32))) M
def gX12_word_4 (S : List (Nat × Nat)) : Nat → Nat → Int32 → Int32 → zM → Option Int32
  | 0 => fun _ _ _ _ => none
  | n + 1 => fun p0 x1 x2 M => zsN zT2 (fun v1 => (if v1 ≤ x2 then some ((-1 : Int32)) else gX12_word_15 S (gX12_word_4 S   n) zfu (p0) (x1) (x2) ((0 : Int32)) M))
set_option maxHeartbeats 4000000 in
set_option maxRecDepth 100000 in
theorem t_X12_word_4 (w : zWd) (hz : zSZ w) (S : List (Nat × Nat)) (fu : Nat) : ∀ (p0 : Nat) (x1 : Int32) (x2 : Int32) (M : zM), AJ (zfI S M) w 5 mX12_word 4 [(0, .ref (p0)), (1, .int (x1)), (2, .int (x2))] [] (S, M) (gX12_word_4 S fu p0 x1 x2 M) := by
  induction fu with
  | zero => intro p0 x1 x2 M; exact AJ.none
  | succ n ih =>
    intro p0 x1 x2 M
    unfold gX12_word_4
    refine aj_iload_n (2) dX12_word_4 rfl rfl ?_
    refine r_slen (Ws := zT2) (fun s h => (hz s h).2.2) zg_1582 (by decide) (Nat.le_of_ble_eq_true rfl) dX12_word_5 dX12_word_7 (fun v1 => ?_)
    refine aj_icmp_ge (tgt := 123) dX12_word_10 (by decide) (fun h => ?_) (fun h => ?_)
    · refine aj_iconst (v := (-1 : Int32)) dX12_word_123 (by decide) ?_
      exact aj_iret dX12_word_124 rfl rfl rfl
    refine aj_iconst (v := (0 : Int32)) dX12_word_13 (by decide) ?_
    refine aj_istore_n (ls2 := [(3, .int ((0 : Int32))), (0, .ref (p0)), (1, .int (x1)), (2, .int (x2))]) dX12_word_14 rfl (Nat.le_of_ble_eq_true rfl) rfl ?_
    refine AJ.sub [1, 2, 3, 0] rfl ?_
    exact t_X12_word_15 w hz S (gX12_word_4 S   n) ih zfu (p0) (x1) (x2) ((0 : Int32)) M
def gX12_word (S : List (Nat × Nat)) (p0 : Nat) (M : zM) : Option Int32 := gX12_word_4 S zfu (p0) ((0 : Int32)) ((0 : Int32)) M
set_option maxHeartbeats 4000000 in
set_option maxRecDepth 100000 in
theorem c_X12_word (w : zWd) (hz : zSZ w) (S : List (Nat × Nat)) (p0 : Nat) (M : zM) : CT (zfI S M) w 5 mX12_word [.ref (p0)] (S, M) (gX12_word S p0 M) := by
  refine CT.of (by decide) (Nat.le_of_ble_eq_true rfl) ?_
  show AJ _ _ _ _ 0 [(0, .ref (p0))] [] _ _
  unfold gX12_word
  refine aj_iconst (v := (0 : Int32)) dX12_word_0 (by decide) ?_
  refine aj_istore_n (ls2 := [(1, .int ((0 : Int32))), (0, .ref (p0))]) dX12_word_1 rfl (Nat.le_of_ble_eq_true rfl) rfl ?_
  refine aj_iconst (v := (0 : Int32)) dX12_word_2 (by decide) ?_
  refine aj_istore_n (ls2 := [(2, .int ((0 : Int32))), (1, .int ((0 : Int32))), (0, .ref (p0))]) dX12_word_3 rfl (Nat.le_of_ble_eq_true rfl) rfl ?_
  refine AJ.sub [2, 1, 0] rfl ?_
  exact t_X12_word_4 w hz S zfu (p0) ((0 : Int32)) ((0 : Int32)) M
def gX12_token_162 (S : List (Nat × Nat)) : Nat → Nat → zM → Option zM
  | 0 => fun _ _ => none
  | n + 1 => fun p0 M => zrc S (p0) 12 66 ((gX12_here S (p0) M).bind (fun v1 => (gX12_isDigit S (v1) M).bind (fun v2 => (if v2 = 0 then some M else zgI S M (p0) 12 66 23 (fun v3 => (if v3 ≤ (99999 : Int32) then zgI S M (p0) 12 66 23 (fun v4 => zrc S (p0) 12 66 ((gX12_here S (p0) M).bind (fun v5 => zpI S M (p0) 12 66 23 (((((10 : Int32) * v4) + v5) - (48 : Int32))) (fun M6 => zgI S M6 (p0) 12 66 20 (fun v7 => zpI S M6 (p0) 12 66 20 ((v7 + (1 : Int32))) (fun M8 => (gX12_token_162 S   n) (p0) M8)))))) else zgI S M (p0) 12 66 23 (fun v9 => zpI S M (p0) 12 66 23 (v9) (fun M10 => zgI S M10 (p0) 12 66 20 (fun v11 => zpI S M10 (p0) 12 66 20 ((v11 + (1 : Int32))) (fun M12 => (gX12_token_162 S   n) (p0) M12))))))))))
set_option maxHeartbeats 4000000 in
set_option maxRecDepth 100000 in
theorem t_X12_token_162 (w : zWd) (hz : zSZ w) (S : List (Nat × Nat)) (fu : Nat) : ∀ (p0 : Nat) (M : zM), AJ (zfVM S) w 6 mX12_token 162 [(0, .ref (p0))] [] (S, M) (gX12_token_162 S fu p0 M) := by
  induction fu with
  | zero => intro p0 M; exact AJ.none
  | succ n ih =>
    intro p0 M
    unfold gX12_token_162
    refine aj_aload_n (0) dX12_token_162 rfl rfl ?_
    refine rV_I (as := []) (c_X12_here w S _ _) mv_X12_here rfl zg_1570 (by decide) (Nat.le_of_ble_eq_true rfl) dX12_token_163 (fun v1 => ?_)
    refine rS_I (as := [.int (v1)]) (c_X12_isDigit w S _ _) ms_X12_isDigit rfl zg_1588 (by decide) (Nat.le_of_ble_eq_true rfl) dX12_token_166 (fun v2 => ?_)
    refine aj_if_eq (tgt := 225) dX12_token_169 (by decide) (fun h => ?_) (fun h => ?_)
    · exact aj_vret dX12_token_225 rfl rfl
    refine aj_aload_n (0) dX12_token_172 rfl rfl ?_
    refine aj_aload_n (0) dX12_token_173 rfl rfl ?_
    refine r_getI (TX := TX12) zc12 (by decide) rfl (Or.inl zg_1373) dX12_token_174 (fun v3 => ?_)
    refine aj_ldc (v := (99999 : Int32)) dX12_token_177 zg_1591 ?_
    refine aj_icmp_le (tgt := 189) dX12_token_179 (by decide) (fun h => ?_) (fun h => ?_)
    · refine aj_bipush (v := (10 : Int32)) dX12_token_189 (by decide) ?_
      refine aj_aload_n (0) dX12_token_191 rfl rfl ?_
      refine r_getI (TX := TX12) zc12 (by decide) rfl (Or.inl zg_1373) dX12_token_192 (fun v4 => ?_)
      refine aj_imul dX12_token_195 ?_
      refine aj_aload_n (0) dX12_token_196 rfl rfl ?_
      refine rV_I (as := []) (c_X12_here w S _ _) mv_X12_here rfl zg_1570 (by decide) (Nat.le_of_ble_eq_true rfl) dX12_token_197 (fun v5 => ?_)
      refine aj_iadd dX12_token_200 ?_
      refine aj_bipush (v := (48 : Int32)) dX12_token_201 (by decide) ?_
      refine aj_isub dX12_token_203 ?_
      refine r_putI (TX := TX12) zc12 (by decide) rfl rfl rfl rfl (Or.inl zg_1373) dX12_token_204 (fun M6 => ?_)
      refine aj_aload_n (0) dX12_token_207 rfl rfl ?_
      refine aj_dup dX12_token_208 rfl ?_
      refine r_getI (TX := TX12) zc12 (by decide) rfl (Or.inl zg_1370) dX12_token_209 (fun v7 => ?_)
      refine aj_iconst (v := (1 : Int32)) dX12_token_212 (by decide) ?_
      refine aj_iadd dX12_token_213 ?_
      refine r_putI (TX := TX12) zc12 (by decide) rfl rfl rfl rfl (Or.inl zg_1370) dX12_token_214 (fun M8 => ?_)
      refine aj_goto (tgt := 162) dX12_token_217 (by decide) ?_
      refine AJ.sub [0] rfl ?_
      exact ih (p0) M8
    refine aj_aload_n (0) dX12_token_182 rfl rfl ?_
    refine r_getI (TX := TX12) zc12 (by decide) rfl (Or.inl zg_1373) dX12_token_183 (fun v9 => ?_)
    refine aj_goto (tgt := 204) dX12_token_186 (by decide) ?_
    refine r_putI (TX := TX12) zc12 (by decide) rfl rfl rfl rfl (Or.inl zg_1373) dX12_token_204 (fun M10 => ?_)
    refine aj_aload_n (0) dX12_token_207 rfl rfl ?_
    refine aj_dup dX12_token_208 rfl ?_
    refine r_getI (TX := TX12) zc12 (by decide) rfl (Or.inl zg_1370) dX12_token_209 (fun v11 => ?_)
    refine aj_iconst (v := (1 : Int32)) dX12_token_212 (by decide) ?_
    refine aj_iadd dX12_token_213 ?_
    refine r_putI (TX := TX12) zc12 (by decide) rfl rfl rfl rfl (Or.inl zg_1370) dX12_token_214 (fun M12 => ?_)
    refine aj_goto (tgt := 162) dX12_token_217 (by decide) ?_
    refine AJ.sub [0] rfl ?_
    exact ih (p0) M12
def gX12_token_64 (S : List (Nat × Nat)) : Nat → Nat → zM → Option zM
  | 0 => fun _ _ => none
  | n + 1 => fun p0 M => zrc S (p0) 12 66 ((gX12_here S (p0) M).bind (fun v1 => (gX12_isSmall S (v1) M).bind (fun v2 => (if v2 = 0 then zrc S (p0) 12 66 ((gX12_word S (p0) M).bind (fun v3 => zpI S M (p0) 12 66 23 (v3) (fun M4 => zgI S M4 (p0) 12 66 23 (fun v5 => (if v5 = (-1 : Int32) then zgI S M4 (p0) 12 66 20 (fun v6 => zgI S M4 (p0) 12 66 21 (fun v7 => (if (v6 - v7) ≤ (6 : Int32) then zpI S M4 (p0) 12 66 22 ((1 : Int32)) (fun M8 => zgI S M8 (p0) 12 66 22 (fun v9 => (if v9 = (1 : Int32) then zrc S (p0) 12 66 ((gX12_name S (p0) M8).bind (fun M10 => some M10)) else some M8))) else zpI S M4 (p0) 12 66 22 ((5 : Int32)) (fun M11 => zgI S M11 (p0) 12 66 22 (fun v12 => (if v12 = (1 : Int32) then zrc S (p0) 12 66 ((gX12_name S (p0) M11).bind (fun M13 => some M13)) else some M11)))))) else zpI S M4 (p0) 12 66 22 ((0 : Int32)) (fun M14 => zgI S M14 (p0) 12 66 22 (fun v15 => (if v15 = (1 : Int32) then zrc S (p0) 12 66 ((gX12_name S (p0) M14).bind (fun M16 => some M16)) else some M14)))))))) else zgI S M (p0) 12 66 20 (fun v17 => zpI S M (p0) 12 66 20 ((v17 + (1 : Int32))) (fun M18 => (gX12_token_64 S   n) (p0) M18))))))
set_option maxHeartbeats 4000000 in
set_option maxRecDepth 100000 in
theorem t_X12_token_64 (w : zWd) (hz : zSZ w) (S : List (Nat × Nat)) (fu : Nat) : ∀ (p0 : Nat) (M : zM), AJ (zfVM S) w 6 mX12_token 64 [(0, .ref (p0))] [] (S, M) (gX12_token_64 S fu p0 M) := by
  induction fu with
  | zero => intro p0 M; exact AJ.none
  | succ n ih =>
    intro p0 M
    unfold gX12_token_64
    refine aj_aload_n (0) dX12_token_64 rfl rfl ?_
    refine rV_I (as := []) (c_X12_here w S _ _) mv_X12_here rfl zg_1570 (by decide) (Nat.le_of_ble_eq_true rfl) dX12_token_65 (fun v1 => ?_)
    refine rS_I (as := [.int (v1)]) (c_X12_isSmall w S _ _) ms_X12_isSmall rfl zg_1574 (by decide) (Nat.le_of_ble_eq_true rfl) dX12_token_68 (fun v2 => ?_)
    refine aj_if_eq (tgt := 87) dX12_token_71 (by decide) (fun h => ?_) (fun h => ?_)
    · refine aj_aload_n (0) dX12_token_87 rfl rfl ?_
      refine aj_aload_n (0) dX12_token_88 rfl rfl ?_
      refine rV_I (as := []) (c_X12_word w hz S _ _) mv_X12_word rfl zg_1577 (by decide) (Nat.le_of_ble_eq_true rfl) dX12_token_89 (fun v3 => ?_)
      refine r_putI (TX := TX12) zc12 (by decide) rfl rfl rfl rfl (Or.inl zg_1373) dX12_token_92 (fun M4 => ?_)
      refine aj_aload_n (0) dX12_token_95 rfl rfl ?_
      refine aj_aload_n (0) dX12_token_96 rfl rfl ?_
      refine r_getI (TX := TX12) zc12 (by decide) rfl (Or.inl zg_1373) dX12_token_97 (fun v5 => ?_)
      refine aj_iconst (v := (-1 : Int32)) dX12_token_100 (by decide) ?_
      refine aj_icmp_eq (tgt := 108) dX12_token_101 (by decide) (fun h => ?_) (fun h => ?_)
      · refine aj_aload_n (0) dX12_token_108 rfl rfl ?_
        refine r_getI (TX := TX12) zc12 (by decide) rfl (Or.inl zg_1370) dX12_token_109 (fun v6 => ?_)
        refine aj_aload_n (0) dX12_token_112 rfl rfl ?_
        refine r_getI (TX := TX12) zc12 (by decide) rfl (Or.inl zg_1371) dX12_token_113 (fun v7 => ?_)
        refine aj_isub dX12_token_116 ?_
        refine aj_bipush (v := (6 : Int32)) dX12_token_117 (by decide) ?_
        refine aj_icmp_le (tgt := 126) dX12_token_119 (by decide) (fun h => ?_) (fun h => ?_)
        · refine aj_iconst (v := (1 : Int32)) dX12_token_126 (by decide) ?_
          refine r_putI (TX := TX12) zc12 (by decide) rfl rfl rfl rfl (Or.inl zg_1372) dX12_token_127 (fun M8 => ?_)
          refine aj_aload_n (0) dX12_token_130 rfl rfl ?_
          refine r_getI (TX := TX12) zc12 (by decide) rfl (Or.inl zg_1372) dX12_token_131 (fun v9 => ?_)
          refine aj_iconst (v := (1 : Int32)) dX12_token_134 (by decide) ?_
          refine aj_icmp_ne (tgt := 225) dX12_token_135 (by decide) (fun h => ?_) (fun h => ?_)
          · exact aj_vret dX12_token_225 rfl rfl
          refine aj_aload_n (0) dX12_token_138 rfl rfl ?_
          refine rV_VM (as := []) (c_X12_name w S _ _) mv_X12_name rfl zg_1584 (by decide) (Nat.le_of_ble_eq_true rfl) dX12_token_139 (fun M10 => ?_)
          refine aj_goto (tgt := 225) dX12_token_142 (by decide) ?_
          exact aj_vret dX12_token_225 rfl rfl
        refine aj_iconst (v := (5 : Int32)) dX12_token_122 (by decide) ?_
        refine aj_goto (tgt := 127) dX12_token_123 (by decide) ?_
        refine r_putI (TX := TX12) zc12 (by decide) rfl rfl rfl rfl (Or.inl zg_1372) dX12_token_127 (fun M11 => ?_)
        refine aj_aload_n (0) dX12_token_130 rfl rfl ?_
        refine r_getI (TX := TX12) zc12 (by decide) rfl (Or.inl zg_1372) dX12_token_131 (fun v12 => ?_)
        refine aj_iconst (v := (1 : Int32)) dX12_token_134 (by decide) ?_
        refine aj_icmp_ne (tgt := 225) dX12_token_135 (by decide) (fun h => ?_) (fun h => ?_)
        · exact aj_vret dX12_token_225 rfl rfl
        refine aj_aload_n (0) dX12_token_138 rfl rfl ?_
        refine rV_VM (as := []) (c_X12_name w S _ _) mv_X12_name rfl zg_1584 (by decide) (Nat.le_of_ble_eq_true rfl) dX12_token_139 (fun M13 => ?_)
        refine aj_goto (tgt := 225) dX12_token_142 (by decide) ?_
        exact aj_vret dX12_token_225 rfl rfl
      refine aj_iconst (v := (0 : Int32)) dX12_token_104 (by decide) ?_
      refine aj_goto (tgt := 127) dX12_token_105 (by decide) ?_
      refine r_putI (TX := TX12) zc12 (by decide) rfl rfl rfl rfl (Or.inl zg_1372) dX12_token_127 (fun M14 => ?_)
      refine aj_aload_n (0) dX12_token_130 rfl rfl ?_
      refine r_getI (TX := TX12) zc12 (by decide) rfl (Or.inl zg_1372) dX12_token_131 (fun v15 => ?_)
      refine aj_iconst (v := (1 : Int32)) dX12_token_134 (by decide) ?_
      refine aj_icmp_ne (tgt := 225) dX12_token_135 (by decide) (fun h => ?_) (fun h => ?_)
      · exact aj_vret dX12_token_225 rfl rfl
      refine aj_aload_n (0) dX12_token_138 rfl rfl ?_
      refine rV_VM (as := []) (c_X12_name w S _ _) mv_X12_name rfl zg_1584 (by decide) (Nat.le_of_ble_eq_true rfl) dX12_token_139 (fun M16 => ?_)
      refine aj_goto (tgt := 225) dX12_token_142 (by decide) ?_
      exact aj_vret dX12_token_225 rfl rfl
    refine aj_aload_n (0) dX12_token_74 rfl rfl ?_
    refine aj_dup dX12_token_75 rfl ?_
    refine r_getI (TX := TX12) zc12 (by decide) rfl (Or.inl zg_1370) dX12_token_76 (fun v17 => ?_)
    refine aj_iconst (v := (1 : Int32)) dX12_token_79 (by decide) ?_
    refine aj_iadd dX12_token_80 ?_
    refine r_putI (TX := TX12) zc12 (by decide) rfl rfl rfl rfl (Or.inl zg_1370) dX12_token_81 (fun M18 => ?_)
    refine aj_goto (tgt := 64) dX12_token_84 (by decide) ?_
    refine AJ.sub [0] rfl ?_
    exact ih (p0) M18
def gX12_token_0 (S : List (Nat × Nat)) : Nat → Nat → zM → Option zM
  | 0 => fun _ _ => none
  | n + 1 => fun p0 M => zrc S (p0) 12 66 ((gX12_here S (p0) M).bind (fun v1 => (if v1 = (10 : Int32) then zgI S M (p0) 12 66 20 (fun v2 => zpI S M (p0) 12 66 20 ((v2 + (1 : Int32))) (fun M3 => (gX12_token_0 S   n) (p0) M3)) else zrc S (p0) 12 66 ((gX12_here S (p0) M).bind (fun v4 => (if v4 = (32 : Int32) then zgI S M (p0) 12 66 20 (fun v14 => zpI S M (p0) 12 66 20 ((v14 + (1 : Int32))) (fun M15 => (gX12_token_0 S   n) (p0) M15)) else zgI S M (p0) 12 66 20 (fun v5 => zpI S M (p0) 12 66 21 (v5) (fun M6 => zrc S (p0) 12 66 ((gX12_here S (p0) M6).bind (fun v7 => (if v7 = (-1 : Int32) then zpI S M6 (p0) 12 66 22 ((4 : Int32)) (fun M13 => some M13) else (gX12_isSmall S (v7) M6).bind (fun v8 => (if v8 = 0 then (gX12_isDigit S (v7) M6).bind (fun v9 => (if v9 = 0 then zrc S (p0) 12 66 ((gX12_sign S (p0) (v7) M6).bind (fun M10 => some M10)) else zpI S M6 (p0) 12 66 22 ((2 : Int32)) (fun M11 => zpI S M11 (p0) 12 66 23 ((0 : Int32)) (fun M12 => gX12_token_162 S zfu (p0) M12)))) else gX12_token_64 S zfu (p0) M6)))))))))))))
set_option maxHeartbeats 4000000 in
set_option maxRecDepth 100000 in
theorem t_X12_token_0 (w : zWd) (hz : zSZ w) (S : List (Nat × Nat)) (fu : Nat) : ∀ (p0 : Nat) (M : zM), AJ (zfVM S) w 6 mX12_token 0 [(0, .ref (p0))] [] (S, M) (gX12_token_0 S fu p0 M) := by
  induction fu with
  | zero => intro p0 M; exact AJ.none
  | succ n ih =>
    intro p0 M
    unfold gX12_token_0
    refine aj_aload_n (0) dX12_token_0 rfl rfl ?_
    refine rV_I (as := []) (c_X12_here w S _ _) mv_X12_here rfl zg_1570 (by decide) (Nat.le_of_ble_eq_true rfl) dX12_token_1 (fun v1 => ?_)
    refine aj_bipush (v := (10 : Int32)) dX12_token_4 (by decide) ?_
    refine aj_icmp_eq (tgt := 18) dX12_token_6 (by decide) (fun h => ?_) (fun h => ?_)
    · refine aj_aload_n (0) dX12_token_18 rfl rfl ?_
      refine aj_dup dX12_token_19 rfl ?_
      refine r_getI (TX := TX12) zc12 (by decide) rfl (Or.inl zg_1370) dX12_token_20 (fun v2 => ?_)
      refine aj_iconst (v := (1 : Int32)) dX12_token_23 (by decide) ?_
      refine aj_iadd dX12_token_24 ?_
      refine r_putI (TX := TX12) zc12 (by decide) rfl rfl rfl rfl (Or.inl zg_1370) dX12_token_25 (fun M3 => ?_)
      refine aj_goto (tgt := 0) dX12_token_28 (by decide) ?_
      refine AJ.sub [0] rfl ?_
      exact ih (p0) M3
    refine aj_aload_n (0) dX12_token_9 rfl rfl ?_
    refine rV_I (as := []) (c_X12_here w S _ _) mv_X12_here rfl zg_1570 (by decide) (Nat.le_of_ble_eq_true rfl) dX12_token_10 (fun v4 => ?_)
    refine aj_bipush (v := (32 : Int32)) dX12_token_13 (by decide) ?_
    refine aj_icmp_ne (tgt := 31) dX12_token_15 (by decide) (fun h => ?_) (fun h => ?_)
    · refine aj_aload_n (0) dX12_token_31 rfl rfl ?_
      refine aj_aload_n (0) dX12_token_32 rfl rfl ?_
      refine r_getI (TX := TX12) zc12 (by decide) rfl (Or.inl zg_1370) dX12_token_33 (fun v5 => ?_)
      refine r_putI (TX := TX12) zc12 (by decide) rfl rfl rfl rfl (Or.inl zg_1371) dX12_token_36 (fun M6 => ?_)
      refine aj_aload_n (0) dX12_token_39 rfl rfl ?_
      refine rV_I (as := []) (c_X12_here w S _ _) mv_X12_here rfl zg_1570 (by decide) (Nat.le_of_ble_eq_true rfl) dX12_token_40 (fun v7 => ?_)
      refine aj_istore_n (ls2 := [(1, .int (v7)), (0, .ref (p0))]) dX12_token_43 rfl (Nat.le_of_ble_eq_true rfl) rfl ?_
      refine aj_iload_n (0) dX12_token_44 rfl rfl ?_
      refine aj_iconst (v := (-1 : Int32)) dX12_token_45 (by decide) ?_
      refine aj_icmp_ne (tgt := 57) dX12_token_46 (by decide) (fun h => ?_) (fun h => ?_)
      · refine aj_iload_n (0) dX12_token_57 rfl rfl ?_
        refine rS_I (as := [.int (v7)]) (c_X12_isSmall w S _ _) ms_X12_isSmall rfl zg_1574 (by decide) (Nat.le_of_ble_eq_true rfl) dX12_token_58 (fun v8 => ?_)
        refine aj_if_eq (tgt := 145) dX12_token_61 (by decide) (fun h => ?_) (fun h => ?_)
        · refine aj_iload_n (0) dX12_token_145 rfl rfl ?_
          refine rS_I (as := [.int (v7)]) (c_X12_isDigit w S _ _) ms_X12_isDigit rfl zg_1588 (by decide) (Nat.le_of_ble_eq_true rfl) dX12_token_146 (fun v9 => ?_)
          refine aj_if_eq (tgt := 220) dX12_token_149 (by decide) (fun h => ?_) (fun h => ?_)
          · refine aj_aload_n (1) dX12_token_220 rfl rfl ?_
            refine aj_iload_n (0) dX12_token_221 rfl rfl ?_
            refine rV_VM (as := [.int (v7)]) (c_X12_sign w S _ _ _) mv_X12_sign rfl zg_1592 (by decide) (Nat.le_of_ble_eq_true rfl) dX12_token_222 (fun M10 => ?_)
            exact aj_vret dX12_token_225 rfl rfl
          refine aj_aload_n (1) dX12_token_152 rfl rfl ?_
          refine aj_iconst (v := (2 : Int32)) dX12_token_153 (by decide) ?_
          refine r_putI (TX := TX12) zc12 (by decide) rfl rfl rfl rfl (Or.inl zg_1372) dX12_token_154 (fun M11 => ?_)
          refine aj_aload_n (1) dX12_token_157 rfl rfl ?_
          refine aj_iconst (v := (0 : Int32)) dX12_token_158 (by decide) ?_
          refine r_putI (TX := TX12) zc12 (by decide) rfl rfl rfl rfl (Or.inl zg_1373) dX12_token_159 (fun M12 => ?_)
          refine AJ.sub [1] rfl ?_
          exact t_X12_token_162 w hz S zfu (p0) M12
        refine AJ.sub [1] rfl ?_
        exact t_X12_token_64 w hz S zfu (p0) M6
      refine aj_aload_n (1) dX12_token_49 rfl rfl ?_
      refine aj_iconst (v := (4 : Int32)) dX12_token_50 (by decide) ?_
      refine r_putI (TX := TX12) zc12 (by decide) rfl rfl rfl rfl (Or.inl zg_1372) dX12_token_51 (fun M13 => ?_)
      refine aj_goto (tgt := 225) dX12_token_54 (by decide) ?_
      exact aj_vret dX12_token_225 rfl rfl
    refine aj_aload_n (0) dX12_token_18 rfl rfl ?_
    refine aj_dup dX12_token_19 rfl ?_
    refine r_getI (TX := TX12) zc12 (by decide) rfl (Or.inl zg_1370) dX12_token_20 (fun v14 => ?_)
    refine aj_iconst (v := (1 : Int32)) dX12_token_23 (by decide) ?_
    refine aj_iadd dX12_token_24 ?_
    refine r_putI (TX := TX12) zc12 (by decide) rfl rfl rfl rfl (Or.inl zg_1370) dX12_token_25 (fun M15 => ?_)
    refine aj_goto (tgt := 0) dX12_token_28 (by decide) ?_
    refine AJ.sub [0] rfl ?_
    exact ih (p0) M15
def gX12_token (S : List (Nat × Nat)) (p0 : Nat) (M : zM) : Option zM := gX12_token_0 S zfu (p0) M
set_option maxHeartbeats 4000000 in
set_option maxRecDepth 100000 in
theorem c_X12_token (w : zWd) (hz : zSZ w) (S : List (Nat × Nat)) (p0 : Nat) (M : zM) : CT (zfVM S) w 6 mX12_token [.ref (p0)] (S, M) (gX12_token S p0 M) := by
  refine CT.of (by decide) (Nat.le_of_ble_eq_true rfl) ?_
  show AJ _ _ _ _ 0 [(0, .ref (p0))] [] _ _
  unfold gX12_token
  refine AJ.sub [0] rfl ?_
  exact t_X12_token_0 w hz S zfu (p0) M
def gX12_wrong (S : List (Nat × Nat)) (p0 : Nat) (x1 : Int32) (M : zM) : Option zM := zgI S M (p0) 12 66 24 (fun v1 => (if v1 = 0 then zpI S M (p0) 12 66 24 (x1) (fun M2 => zgI S M2 (p0) 12 66 21 (fun v3 => zpI S M2 (p0) 12 66 25 (v3) (fun M4 => some M4))) else some M))
set_option maxHeartbeats 4000000 in
set_option maxRecDepth 100000 in
theorem c_X12_wrong (w : zWd) (S : List (Nat × Nat)) (p0 : Nat) (x1 : Int32) (M : zM) : CT (zfVM S) w 1 mX12_wrong [.ref (p0), .int (x1)] (S, M) (gX12_wrong S p0 x1 M) := by
  refine CT.of (by decide) (Nat.le_of_ble_eq_true rfl) ?_
  show AJ _ _ _ _ 0 [(0, .ref (p0)), (1, .int (x1))] [] _ _
  unfold gX12_wrong
  refine aj_aload_n (0) dX12_wrong_0 rfl rfl ?_
  refine r_getI (TX := TX12) zc12 (by decide) rfl (Or.inl zg_1374) dX12_wrong_1 (fun v1 => ?_)
  refine aj_if_eq (tgt := 8) dX12_wrong_4 (by decide) (fun h => ?_) (fun h => ?_)
  · refine aj_aload_n (0) dX12_wrong_8 rfl rfl ?_
    refine aj_iload_n (1) dX12_wrong_9 rfl rfl ?_
    refine r_putI (TX := TX12) zc12 (by decide) rfl rfl rfl rfl (Or.inl zg_1374) dX12_wrong_10 (fun M2 => ?_)
    refine aj_aload_n (0) dX12_wrong_13 rfl rfl ?_
    refine aj_aload_n (0) dX12_wrong_14 rfl rfl ?_
    refine r_getI (TX := TX12) zc12 (by decide) rfl (Or.inl zg_1371) dX12_wrong_15 (fun v3 => ?_)
    refine r_putI (TX := TX12) zc12 (by decide) rfl rfl rfl rfl (Or.inl zg_1375) dX12_wrong_18 (fun M4 => ?_)
    exact aj_vret dX12_wrong_21 rfl rfl
  exact aj_vret dX12_wrong_7 rfl rfl
def gX12_isWord (S : List (Nat × Nat)) (p0 : Nat) (x1 : Int32) (M : zM) : Option Int32 := zgI S M (p0) 12 66 24 (fun v1 => (if v1 = 0 then zgI S M (p0) 12 66 22 (fun v2 => (if v2 = 0 then zgI S M (p0) 12 66 23 (fun v3 => (if v3 = x1 then some ((1 : Int32)) else some ((0 : Int32)))) else some ((0 : Int32)))) else some ((0 : Int32))))
set_option maxHeartbeats 4000000 in
set_option maxRecDepth 100000 in
theorem c_X12_isWord (w : zWd) (S : List (Nat × Nat)) (p0 : Nat) (x1 : Int32) (M : zM) : CT (zfI S M) w 1 mX12_isWord [.ref (p0), .int (x1)] (S, M) (gX12_isWord S p0 x1 M) := by
  refine CT.of (by decide) (Nat.le_of_ble_eq_true rfl) ?_
  show AJ _ _ _ _ 0 [(0, .ref (p0)), (1, .int (x1))] [] _ _
  unfold gX12_isWord
  refine aj_aload_n (0) dX12_isWord_0 rfl rfl ?_
  refine r_getI (TX := TX12) zc12 (by decide) rfl (Or.inl zg_1374) dX12_isWord_1 (fun v1 => ?_)
  refine aj_if_ne (tgt := 26) dX12_isWord_4 (by decide) (fun h => ?_) (fun h => ?_)
  · refine aj_iconst (v := (0 : Int32)) dX12_isWord_26 (by decide) ?_
    exact aj_iret dX12_isWord_27 rfl (by decide +kernel) rfl
  refine aj_aload_n (0) dX12_isWord_7 rfl rfl ?_
  refine r_getI (TX := TX12) zc12 (by decide) rfl (Or.inl zg_1372) dX12_isWord_8 (fun v2 => ?_)
  refine aj_if_ne (tgt := 26) dX12_isWord_11 (by decide) (fun h => ?_) (fun h => ?_)
  · refine aj_iconst (v := (0 : Int32)) dX12_isWord_26 (by decide) ?_
    exact aj_iret dX12_isWord_27 rfl (by decide +kernel) rfl
  refine aj_aload_n (0) dX12_isWord_14 rfl rfl ?_
  refine r_getI (TX := TX12) zc12 (by decide) rfl (Or.inl zg_1373) dX12_isWord_15 (fun v3 => ?_)
  refine aj_iload_n (1) dX12_isWord_18 rfl rfl ?_
  refine aj_icmp_ne (tgt := 26) dX12_isWord_19 (by decide) (fun h => ?_) (fun h => ?_)
  · refine aj_iconst (v := (0 : Int32)) dX12_isWord_26 (by decide) ?_
    exact aj_iret dX12_isWord_27 rfl (by decide +kernel) rfl
  refine aj_iconst (v := (1 : Int32)) dX12_isWord_22 (by decide) ?_
  refine aj_goto (tgt := 27) dX12_isWord_23 (by decide) ?_
  exact aj_iret dX12_isWord_27 rfl (by decide +kernel) rfl
def gX12_isSign (S : List (Nat × Nat)) (p0 : Nat) (x1 : Int32) (M : zM) : Option Int32 := zgI S M (p0) 12 66 24 (fun v1 => (if v1 = 0 then zgI S M (p0) 12 66 22 (fun v2 => (if v2 = (3 : Int32) then zgI S M (p0) 12 66 23 (fun v3 => (if v3 = x1 then some ((1 : Int32)) else some ((0 : Int32)))) else some ((0 : Int32)))) else some ((0 : Int32))))
set_option maxHeartbeats 4000000 in
set_option maxRecDepth 100000 in
theorem c_X12_isSign (w : zWd) (S : List (Nat × Nat)) (p0 : Nat) (x1 : Int32) (M : zM) : CT (zfI S M) w 1 mX12_isSign [.ref (p0), .int (x1)] (S, M) (gX12_isSign S p0 x1 M) := by
  refine CT.of (by decide) (Nat.le_of_ble_eq_true rfl) ?_
  show AJ _ _ _ _ 0 [(0, .ref (p0)), (1, .int (x1))] [] _ _
  unfold gX12_isSign
  refine aj_aload_n (0) dX12_isSign_0 rfl rfl ?_
  refine r_getI (TX := TX12) zc12 (by decide) rfl (Or.inl zg_1374) dX12_isSign_1 (fun v1 => ?_)
  refine aj_if_ne (tgt := 27) dX12_isSign_4 (by decide) (fun h => ?_) (fun h => ?_)
  · refine aj_iconst (v := (0 : Int32)) dX12_isSign_27 (by decide) ?_
    exact aj_iret dX12_isSign_28 rfl (by decide +kernel) rfl
  refine aj_aload_n (0) dX12_isSign_7 rfl rfl ?_
  refine r_getI (TX := TX12) zc12 (by decide) rfl (Or.inl zg_1372) dX12_isSign_8 (fun v2 => ?_)
  refine aj_iconst (v := (3 : Int32)) dX12_isSign_11 (by decide) ?_
  refine aj_icmp_ne (tgt := 27) dX12_isSign_12 (by decide) (fun h => ?_) (fun h => ?_)
  · refine aj_iconst (v := (0 : Int32)) dX12_isSign_27 (by decide) ?_
    exact aj_iret dX12_isSign_28 rfl (by decide +kernel) rfl
  refine aj_aload_n (0) dX12_isSign_15 rfl rfl ?_
  refine r_getI (TX := TX12) zc12 (by decide) rfl (Or.inl zg_1373) dX12_isSign_16 (fun v3 => ?_)
  refine aj_iload_n (1) dX12_isSign_19 rfl rfl ?_
  refine aj_icmp_ne (tgt := 27) dX12_isSign_20 (by decide) (fun h => ?_) (fun h => ?_)
  · refine aj_iconst (v := (0 : Int32)) dX12_isSign_27 (by decide) ?_
    exact aj_iret dX12_isSign_28 rfl (by decide +kernel) rfl
  refine aj_iconst (v := (1 : Int32)) dX12_isSign_23 (by decide) ?_
  refine aj_goto (tgt := 28) dX12_isSign_24 (by decide) ?_
  exact aj_iret dX12_isSign_28 rfl (by decide +kernel) rfl
def gX12_goOn (S : List (Nat × Nat)) (p0 : Nat) (M : zM) : Option zM := zgI S M (p0) 12 66 24 (fun v1 => (if v1 = 0 then zrc S (p0) 12 66 ((gX12_token S (p0) M).bind (fun M2 => some M2)) else some M))
set_option maxHeartbeats 4000000 in
set_option maxRecDepth 100000 in
theorem c_X12_goOn (w : zWd) (hz : zSZ w) (S : List (Nat × Nat)) (p0 : Nat) (M : zM) : CT (zfVM S) w 7 mX12_goOn [.ref (p0)] (S, M) (gX12_goOn S p0 M) := by
  refine CT.of (by decide) (Nat.le_of_ble_eq_true rfl) ?_
  show AJ _ _ _ _ 0 [(0, .ref (p0))] [] _ _
  unfold gX12_goOn
  refine aj_aload_n (0) dX12_goOn_0 rfl rfl ?_
  refine r_getI (TX := TX12) zc12 (by decide) rfl (Or.inl zg_1374) dX12_goOn_1 (fun v1 => ?_)
  refine aj_if_ne (tgt := 11) dX12_goOn_4 (by decide) (fun h => ?_) (fun h => ?_)
  · exact aj_vret dX12_goOn_11 rfl rfl
  refine aj_aload_n (0) dX12_goOn_7 rfl rfl ?_
  refine rV_VM (as := []) (c_X12_token w hz S _ _) mv_X12_token rfl zg_1566 (by decide) (Nat.le_of_ble_eq_true rfl) dX12_goOn_8 (fun M2 => ?_)
  exact aj_vret dX12_goOn_11 rfl rfl
def gX12_numeral_41 (S : List (Nat × Nat)) (p0 : Nat) (x1 : Int32) (M : zM) : Option (Int32 × zM) := zrc S (p0) 12 66 ((gX12_wrong S (p0) ((2 : Int32)) M).bind (fun M1 => zgI S M1 (p0) 12 66 24 (fun v2 => (if v2 = 0 then zgI S M1 (p0) 12 66 23 (fun v3 => zrc S (p0) 12 66 ((gX12_token S (p0) M1).bind (fun M4 => some (v3, M4)))) else some (x1, M1)))))
set_option maxHeartbeats 4000000 in
set_option maxRecDepth 100000 in
theorem t_X12_numeral_41 (w : zWd) (hz : zSZ w) (S : List (Nat × Nat)) (p0 : Nat) (x1 : Int32) (M : zM) : AJ (zfIM S) w 7 mX12_numeral 41 [(0, .ref (p0)), (1, .int (x1))] [] (S, M) (gX12_numeral_41 S p0 x1 M) := by
  unfold gX12_numeral_41
  refine aj_aload_n (0) dX12_numeral_41 rfl rfl ?_
  refine aj_iconst (v := (2 : Int32)) dX12_numeral_42 (by decide) ?_
  refine rV_VM (as := [.int ((2 : Int32))]) (c_X12_wrong w S _ _ _) mv_X12_wrong rfl zg_1600 (by decide) (Nat.le_of_ble_eq_true rfl) dX12_numeral_43 (fun M1 => ?_)
  refine aj_aload_n (0) dX12_numeral_46 rfl rfl ?_
  refine r_getI (TX := TX12) zc12 (by decide) rfl (Or.inl zg_1374) dX12_numeral_47 (fun v2 => ?_)
  refine aj_if_eq (tgt := 55) dX12_numeral_50 (by decide) (fun h => ?_) (fun h => ?_)
  · refine aj_aload_n (0) dX12_numeral_55 rfl rfl ?_
    refine r_getI (TX := TX12) zc12 (by decide) rfl (Or.inl zg_1373) dX12_numeral_56 (fun v3 => ?_)
    refine aj_istore_n (ls2 := [(3, .int (v3)), (0, .ref (p0)), (1, .int (x1))]) dX12_numeral_59 rfl (Nat.le_of_ble_eq_true rfl) rfl ?_
    refine aj_aload_n (1) dX12_numeral_60 rfl rfl ?_
    refine rV_VM (as := []) (c_X12_token w hz S _ _) mv_X12_token rfl zg_1566 (by decide) (Nat.le_of_ble_eq_true rfl) dX12_numeral_61 (fun M4 => ?_)
    refine aj_iload_n (0) dX12_numeral_64 rfl rfl ?_
    exact aj_iret dX12_numeral_65 rfl rfl rfl
  refine aj_iload_n (1) dX12_numeral_53 rfl rfl ?_
  exact aj_iret dX12_numeral_54 rfl rfl rfl
def gX12_numeral (S : List (Nat × Nat)) (p0 : Nat) (x1 : Int32) (x2 : Int32) (M : zM) : Option (Int32 × zM) := zgI S M (p0) 12 66 24 (fun v1 => (if v1 = 0 then zgI S M (p0) 12 66 22 (fun v2 => (if v2 = (2 : Int32) then zgI S M (p0) 12 66 23 (fun v3 => (if v3 < x1 then gX12_numeral_41 S (p0) (x1) M else zgI S M (p0) 12 66 23 (fun v4 => (if v4 ≤ x2 then zgI S M (p0) 12 66 24 (fun v5 => (if v5 = 0 then zgI S M (p0) 12 66 23 (fun v6 => zrc S (p0) 12 66 ((gX12_token S (p0) M).bind (fun M7 => some (v6, M7)))) else some (x1, M))) else gX12_numeral_41 S (p0) (x1) M)))) else zrc S (p0) 12 66 ((gX12_wrong S (p0) ((1 : Int32)) M).bind (fun M8 => zgI S M8 (p0) 12 66 24 (fun v9 => (if v9 = 0 then zgI S M8 (p0) 12 66 23 (fun v10 => zrc S (p0) 12 66 ((gX12_token S (p0) M8).bind (fun M11 => some (v10, M11)))) else some (x1, M8))))))) else some (x1, M)))
set_option maxHeartbeats 4000000 in
set_option maxRecDepth 100000 in
theorem c_X12_numeral (w : zWd) (hz : zSZ w) (S : List (Nat × Nat)) (p0 : Nat) (x1 : Int32) (x2 : Int32) (M : zM) : CT (zfIM S) w 7 mX12_numeral [.ref (p0), .int (x1), .int (x2)] (S, M) (gX12_numeral S p0 x1 x2 M) := by
  refine CT.of (by decide) (Nat.le_of_ble_eq_true rfl) ?_
  show AJ _ _ _ _ 0 [(0, .ref (p0)), (1, .int (x1)), (2, .int (x2))] [] _ _
  unfold gX12_numeral
  refine aj_aload_n (0) dX12_numeral_0 rfl rfl ?_
  refine r_getI (TX := TX12) zc12 (by decide) rfl (Or.inl zg_1374) dX12_numeral_1 (fun v1 => ?_)
  refine aj_if_eq (tgt := 9) dX12_numeral_4 (by decide) (fun h => ?_) (fun h => ?_)
  · refine aj_aload_n (0) dX12_numeral_9 rfl rfl ?_
    refine r_getI (TX := TX12) zc12 (by decide) rfl (Or.inl zg_1372) dX12_numeral_10 (fun v2 => ?_)
    refine aj_iconst (v := (2 : Int32)) dX12_numeral_13 (by decide) ?_
    refine aj_icmp_eq (tgt := 25) dX12_numeral_14 (by decide) (fun h => ?_) (fun h => ?_)
    · refine aj_aload_n (0) dX12_numeral_25 rfl rfl ?_
      refine r_getI (TX := TX12) zc12 (by decide) rfl (Or.inl zg_1373) dX12_numeral_26 (fun v3 => ?_)
      refine aj_iload_n (1) dX12_numeral_29 rfl rfl ?_
      refine aj_icmp_lt (tgt := 41) dX12_numeral_30 (by decide) (fun h => ?_) (fun h => ?_)
      · refine AJ.sub [0, 1] rfl ?_
        exact t_X12_numeral_41 w hz S (p0) (x1) M
      refine aj_aload_n (0) dX12_numeral_33 rfl rfl ?_
      refine r_getI (TX := TX12) zc12 (by decide) rfl (Or.inl zg_1373) dX12_numeral_34 (fun v4 => ?_)
      refine aj_iload_n (2) dX12_numeral_37 rfl rfl ?_
      refine aj_icmp_le (tgt := 46) dX12_numeral_38 (by decide) (fun h => ?_) (fun h => ?_)
      · refine aj_aload_n (0) dX12_numeral_46 rfl rfl ?_
        refine r_getI (TX := TX12) zc12 (by decide) rfl (Or.inl zg_1374) dX12_numeral_47 (fun v5 => ?_)
        refine aj_if_eq (tgt := 55) dX12_numeral_50 (by decide) (fun h => ?_) (fun h => ?_)
        · refine aj_aload_n (0) dX12_numeral_55 rfl rfl ?_
          refine r_getI (TX := TX12) zc12 (by decide) rfl (Or.inl zg_1373) dX12_numeral_56 (fun v6 => ?_)
          refine aj_istore_n (ls2 := [(3, .int (v6)), (0, .ref (p0)), (1, .int (x1)), (2, .int (x2))]) dX12_numeral_59 rfl (Nat.le_of_ble_eq_true rfl) rfl ?_
          refine aj_aload_n (1) dX12_numeral_60 rfl rfl ?_
          refine rV_VM (as := []) (c_X12_token w hz S _ _) mv_X12_token rfl zg_1566 (by decide) (Nat.le_of_ble_eq_true rfl) dX12_numeral_61 (fun M7 => ?_)
          refine aj_iload_n (0) dX12_numeral_64 rfl rfl ?_
          exact aj_iret dX12_numeral_65 rfl rfl rfl
        refine aj_iload_n (1) dX12_numeral_53 rfl rfl ?_
        exact aj_iret dX12_numeral_54 rfl rfl rfl
      refine AJ.sub [0, 1] rfl ?_
      exact t_X12_numeral_41 w hz S (p0) (x1) M
    refine aj_aload_n (0) dX12_numeral_17 rfl rfl ?_
    refine aj_iconst (v := (1 : Int32)) dX12_numeral_18 (by decide) ?_
    refine rV_VM (as := [.int ((1 : Int32))]) (c_X12_wrong w S _ _ _) mv_X12_wrong rfl zg_1600 (by decide) (Nat.le_of_ble_eq_true rfl) dX12_numeral_19 (fun M8 => ?_)
    refine aj_goto (tgt := 46) dX12_numeral_22 (by decide) ?_
    refine aj_aload_n (0) dX12_numeral_46 rfl rfl ?_
    refine r_getI (TX := TX12) zc12 (by decide) rfl (Or.inl zg_1374) dX12_numeral_47 (fun v9 => ?_)
    refine aj_if_eq (tgt := 55) dX12_numeral_50 (by decide) (fun h => ?_) (fun h => ?_)
    · refine aj_aload_n (0) dX12_numeral_55 rfl rfl ?_
      refine r_getI (TX := TX12) zc12 (by decide) rfl (Or.inl zg_1373) dX12_numeral_56 (fun v10 => ?_)
      refine aj_istore_n (ls2 := [(3, .int (v10)), (0, .ref (p0)), (1, .int (x1)), (2, .int (x2))]) dX12_numeral_59 rfl (Nat.le_of_ble_eq_true rfl) rfl ?_
      refine aj_aload_n (1) dX12_numeral_60 rfl rfl ?_
      refine rV_VM (as := []) (c_X12_token w hz S _ _) mv_X12_token rfl zg_1566 (by decide) (Nat.le_of_ble_eq_true rfl) dX12_numeral_61 (fun M11 => ?_)
      refine aj_iload_n (0) dX12_numeral_64 rfl rfl ?_
      exact aj_iret dX12_numeral_65 rfl rfl rfl
    refine aj_iload_n (1) dX12_numeral_53 rfl rfl ?_
    exact aj_iret dX12_numeral_54 rfl rfl rfl
  refine aj_iload_n (1) dX12_numeral_7 rfl rfl ?_
  exact aj_iret dX12_numeral_8 rfl rfl rfl
def gX12_found_3 (S : List (Nat × Nat)) : Nat → Nat → Int32 → Int32 → Int32 → Int32 → zM → Option Int32
  | 0 => fun _ _ _ _ _ _ => none
  | n + 1 => fun p0 x1 x2 x3 x4 M => (if x2 ≤ x4 then some ((-1 : Int32)) else zaI S M 100 (p0) ((x1 + x4)) (fun v1 => (if v1 = x3 then some (x4) else (gX12_found_3 S   n) (p0) (x1) (x2) (x3) ((x4 + (1 : Int32))) M)))
set_option maxHeartbeats 4000000 in
set_option maxRecDepth 100000 in
theorem t_X12_found_3 (w : zWd) (S : List (Nat × Nat)) (fu : Nat) : ∀ (p0 : Nat) (x1 : Int32) (x2 : Int32) (x3 : Int32) (x4 : Int32) (M : zM), AJ (zfI S M) w 1 mX12_found 3 [(0, .ref (p0)), (1, .int (x1)), (2, .int (x2)), (3, .int (x3)), (4, .int (x4))] [] (S, M) (gX12_found_3 S fu p0 x1 x2 x3 x4 M) := by
  induction fu with
  | zero => intro p0 x1 x2 x3 x4 M; exact AJ.none
  | succ n ih =>
    intro p0 x1 x2 x3 x4 M
    unfold gX12_found_3
    refine aj_iload (4) dX12_found_3 rfl ?_
    refine aj_iload_n (2) dX12_found_5 rfl rfl ?_
    refine aj_icmp_ge (tgt := 28) dX12_found_6 (by decide) (fun h => ?_) (fun h => ?_)
    · refine aj_iconst (v := (-1 : Int32)) dX12_found_28 (by decide) ?_
      exact aj_iret dX12_found_29 rfl rfl rfl
    refine aj_aload_n (0) dX12_found_9 rfl rfl ?_
    refine aj_iload_n (1) dX12_found_10 rfl rfl ?_
    refine aj_iload (4) dX12_found_11 rfl ?_
    refine aj_iadd dX12_found_13 ?_
    refine r_iald dX12_found_14 (fun v1 => ?_)
    refine aj_iload_n (3) dX12_found_15 rfl rfl ?_
    refine aj_icmp_ne (tgt := 22) dX12_found_16 (by decide) (fun h => ?_) (fun h => ?_)
    · refine aj_iinc (j := 4) (v := (x4 + (1 : Int32))) (ls2 := [(4, .int ((x4 + (1 : Int32)))), (0, .ref (p0)), (1, .int (x1)), (2, .int (x2)), (3, .int (x3))]) dX12_found_22 rfl rfl (Nat.le_of_ble_eq_true rfl) rfl ?_
      refine aj_goto (tgt := 3) dX12_found_25 (by decide) ?_
      refine AJ.sub [1, 2, 3, 4, 0] rfl ?_
      exact ih (p0) (x1) (x2) (x3) ((x4 + (1 : Int32))) M
    refine aj_iload (4) dX12_found_19 rfl ?_
    exact aj_iret dX12_found_21 rfl rfl rfl
def gX12_found (S : List (Nat × Nat)) (p0 : Nat) (x1 : Int32) (x2 : Int32) (x3 : Int32) (M : zM) : Option Int32 := gX12_found_3 S zfu (p0) (x1) (x2) (x3) ((0 : Int32)) M
set_option maxHeartbeats 4000000 in
set_option maxRecDepth 100000 in
theorem c_X12_found (w : zWd) (S : List (Nat × Nat)) (p0 : Nat) (x1 : Int32) (x2 : Int32) (x3 : Int32) (M : zM) : CT (zfI S M) w 1 mX12_found [.ref (p0), .int (x1), .int (x2), .int (x3)] (S, M) (gX12_found S p0 x1 x2 x3 M) := by
  refine CT.of (by decide) (Nat.le_of_ble_eq_true rfl) ?_
  show AJ _ _ _ _ 0 [(0, .ref (p0)), (1, .int (x1)), (2, .int (x2)), (3, .int (x3))] [] _ _
  unfold gX12_found
  refine aj_iconst (v := (0 : Int32)) dX12_found_0 (by decide) ?_
  refine aj_istore (ls2 := [(4, .int ((0 : Int32))), (0, .ref (p0)), (1, .int (x1)), (2, .int (x2)), (3, .int (x3))]) dX12_found_1 (Nat.le_of_ble_eq_true rfl) rfl ?_
  refine AJ.sub [1, 2, 3, 4, 0] rfl ?_
  exact t_X12_found_3 w S zfu (p0) (x1) (x2) (x3) ((0 : Int32)) M
def gX12_fresh (S : List (Nat × Nat)) (p0 : Nat) (p1 : Nat) (x2 : Int32) (x3 : Int32) (M : zM) : Option (Int32 × zM) := zgI S M (p0) 12 66 24 (fun v1 => (if v1 = 0 then zgI S M (p0) 12 66 22 (fun v2 => (if v2 = (1 : Int32) then zgI S M (p0) 12 66 23 (fun v3 => (gX12_found S (p1) (x2) (x3) (v3) M).bind (fun v4 => (if v4 = (-1 : Int32) then zgI S M (p0) 12 66 24 (fun v5 => (if v5 = 0 then zgI S M (p0) 12 66 23 (fun v6 => zrc S (p0) 12 66 ((gX12_token S (p0) M).bind (fun M7 => some (v6, M7)))) else some ((0 : Int32), M))) else zrc S (p0) 12 66 ((gX12_wrong S (p0) ((3 : Int32)) M).bind (fun M8 => zgI S M8 (p0) 12 66 24 (fun v9 => (if v9 = 0 then zgI S M8 (p0) 12 66 23 (fun v10 => zrc S (p0) 12 66 ((gX12_token S (p0) M8).bind (fun M11 => some (v10, M11)))) else some ((0 : Int32), M8)))))))) else zrc S (p0) 12 66 ((gX12_wrong S (p0) ((1 : Int32)) M).bind (fun M12 => zgI S M12 (p0) 12 66 24 (fun v13 => (if v13 = 0 then zgI S M12 (p0) 12 66 23 (fun v14 => zrc S (p0) 12 66 ((gX12_token S (p0) M12).bind (fun M15 => some (v14, M15)))) else some ((0 : Int32), M12))))))) else some ((0 : Int32), M)))
set_option maxHeartbeats 4000000 in
set_option maxRecDepth 100000 in
theorem c_X12_fresh (w : zWd) (hz : zSZ w) (S : List (Nat × Nat)) (p0 : Nat) (p1 : Nat) (x2 : Int32) (x3 : Int32) (M : zM) : CT (zfIM S) w 7 mX12_fresh [.ref (p0), .ref (p1), .int (x2), .int (x3)] (S, M) (gX12_fresh S p0 p1 x2 x3 M) := by
  refine CT.of (by decide) (Nat.le_of_ble_eq_true rfl) ?_
  show AJ _ _ _ _ 0 [(0, .ref (p0)), (1, .ref (p1)), (2, .int (x2)), (3, .int (x3))] [] _ _
  unfold gX12_fresh
  refine aj_aload_n (0) dX12_fresh_0 rfl rfl ?_
  refine r_getI (TX := TX12) zc12 (by decide) rfl (Or.inl zg_1374) dX12_fresh_1 (fun v1 => ?_)
  refine aj_if_eq (tgt := 9) dX12_fresh_4 (by decide) (fun h => ?_) (fun h => ?_)
  · refine aj_aload_n (0) dX12_fresh_9 rfl rfl ?_
    refine r_getI (TX := TX12) zc12 (by decide) rfl (Or.inl zg_1372) dX12_fresh_10 (fun v2 => ?_)
    refine aj_iconst (v := (1 : Int32)) dX12_fresh_13 (by decide) ?_
    refine aj_icmp_eq (tgt := 25) dX12_fresh_14 (by decide) (fun h => ?_) (fun h => ?_)
    · refine aj_aload_n (1) dX12_fresh_25 rfl rfl ?_
      refine aj_iload_n (2) dX12_fresh_26 rfl rfl ?_
      refine aj_iload_n (3) dX12_fresh_27 rfl rfl ?_
      refine aj_aload_n (0) dX12_fresh_28 rfl rfl ?_
      refine r_getI (TX := TX12) zc12 (by decide) rfl (Or.inl zg_1373) dX12_fresh_29 (fun v3 => ?_)
      refine rS_I (as := [.ref (p1), .int (x2), .int (x3), .int (v3)]) (c_X12_found w S _ _ _ _ _) ms_X12_found rfl zg_1616 (by decide) (Nat.le_of_ble_eq_true rfl) dX12_fresh_32 (fun v4 => ?_)
      refine aj_iconst (v := (-1 : Int32)) dX12_fresh_35 (by decide) ?_
      refine aj_icmp_eq (tgt := 44) dX12_fresh_36 (by decide) (fun h => ?_) (fun h => ?_)
      · refine aj_aload_n (0) dX12_fresh_44 rfl rfl ?_
        refine r_getI (TX := TX12) zc12 (by decide) rfl (Or.inl zg_1374) dX12_fresh_45 (fun v5 => ?_)
        refine aj_if_eq (tgt := 53) dX12_fresh_48 (by decide) (fun h => ?_) (fun h => ?_)
        · refine aj_aload_n (0) dX12_fresh_53 rfl rfl ?_
          refine r_getI (TX := TX12) zc12 (by decide) rfl (Or.inl zg_1373) dX12_fresh_54 (fun v6 => ?_)
          refine aj_istore (ls2 := [(4, .int (v6)), (0, .ref (p0)), (1, .ref (p1)), (2, .int (x2)), (3, .int (x3))]) dX12_fresh_57 (Nat.le_of_ble_eq_true rfl) rfl ?_
          refine aj_aload_n (1) dX12_fresh_59 rfl rfl ?_
          refine rV_VM (as := []) (c_X12_token w hz S _ _) mv_X12_token rfl zg_1566 (by decide) (Nat.le_of_ble_eq_true rfl) dX12_fresh_60 (fun M7 => ?_)
          refine aj_iload (0) dX12_fresh_63 rfl ?_
          exact aj_iret dX12_fresh_65 rfl rfl rfl
        refine aj_iconst (v := (0 : Int32)) dX12_fresh_51 (by decide) ?_
        exact aj_iret dX12_fresh_52 rfl rfl rfl
      refine aj_aload_n (0) dX12_fresh_39 rfl rfl ?_
      refine aj_iconst (v := (3 : Int32)) dX12_fresh_40 (by decide) ?_
      refine rV_VM (as := [.int ((3 : Int32))]) (c_X12_wrong w S _ _ _) mv_X12_wrong rfl zg_1600 (by decide) (Nat.le_of_ble_eq_true rfl) dX12_fresh_41 (fun M8 => ?_)
      refine aj_aload_n (0) dX12_fresh_44 rfl rfl ?_
      refine r_getI (TX := TX12) zc12 (by decide) rfl (Or.inl zg_1374) dX12_fresh_45 (fun v9 => ?_)
      refine aj_if_eq (tgt := 53) dX12_fresh_48 (by decide) (fun h => ?_) (fun h => ?_)
      · refine aj_aload_n (0) dX12_fresh_53 rfl rfl ?_
        refine r_getI (TX := TX12) zc12 (by decide) rfl (Or.inl zg_1373) dX12_fresh_54 (fun v10 => ?_)
        refine aj_istore (ls2 := [(4, .int (v10)), (0, .ref (p0)), (1, .ref (p1)), (2, .int (x2)), (3, .int (x3))]) dX12_fresh_57 (Nat.le_of_ble_eq_true rfl) rfl ?_
        refine aj_aload_n (1) dX12_fresh_59 rfl rfl ?_
        refine rV_VM (as := []) (c_X12_token w hz S _ _) mv_X12_token rfl zg_1566 (by decide) (Nat.le_of_ble_eq_true rfl) dX12_fresh_60 (fun M11 => ?_)
        refine aj_iload (0) dX12_fresh_63 rfl ?_
        exact aj_iret dX12_fresh_65 rfl rfl rfl
      refine aj_iconst (v := (0 : Int32)) dX12_fresh_51 (by decide) ?_
      exact aj_iret dX12_fresh_52 rfl rfl rfl
    refine aj_aload_n (0) dX12_fresh_17 rfl rfl ?_
    refine aj_iconst (v := (1 : Int32)) dX12_fresh_18 (by decide) ?_
    refine rV_VM (as := [.int ((1 : Int32))]) (c_X12_wrong w S _ _ _) mv_X12_wrong rfl zg_1600 (by decide) (Nat.le_of_ble_eq_true rfl) dX12_fresh_19 (fun M12 => ?_)
    refine aj_goto (tgt := 44) dX12_fresh_22 (by decide) ?_
    refine aj_aload_n (0) dX12_fresh_44 rfl rfl ?_
    refine r_getI (TX := TX12) zc12 (by decide) rfl (Or.inl zg_1374) dX12_fresh_45 (fun v13 => ?_)
    refine aj_if_eq (tgt := 53) dX12_fresh_48 (by decide) (fun h => ?_) (fun h => ?_)
    · refine aj_aload_n (0) dX12_fresh_53 rfl rfl ?_
      refine r_getI (TX := TX12) zc12 (by decide) rfl (Or.inl zg_1373) dX12_fresh_54 (fun v14 => ?_)
      refine aj_istore (ls2 := [(4, .int (v14)), (0, .ref (p0)), (1, .ref (p1)), (2, .int (x2)), (3, .int (x3))]) dX12_fresh_57 (Nat.le_of_ble_eq_true rfl) rfl ?_
      refine aj_aload_n (1) dX12_fresh_59 rfl rfl ?_
      refine rV_VM (as := []) (c_X12_token w hz S _ _) mv_X12_token rfl zg_1566 (by decide) (Nat.le_of_ble_eq_true rfl) dX12_fresh_60 (fun M15 => ?_)
      refine aj_iload (0) dX12_fresh_63 rfl ?_
      exact aj_iret dX12_fresh_65 rfl rfl rfl
    refine aj_iconst (v := (0 : Int32)) dX12_fresh_51 (by decide) ?_
    exact aj_iret dX12_fresh_52 rfl rfl rfl
  refine aj_iconst (v := (0 : Int32)) dX12_fresh_7 (by decide) ?_
  exact aj_iret dX12_fresh_8 rfl rfl rfl
def gX12_fresher (S : List (Nat × Nat)) (p0 : Nat) (x1 : Int32) (M : zM) : Option Int32 := zgR S M (p0) 12 66 3 (fun r1 => zaI S M 100 (r1) (((7 : Int32) + x1)) (fun v2 => some (v2)))
set_option maxHeartbeats 4000000 in
set_option maxRecDepth 100000 in
theorem c_X12_fresher (w : zWd) (S : List (Nat × Nat)) (p0 : Nat) (x1 : Int32) (M : zM) : CT (zfI S M) w 1 mX12_fresher [.ref (p0), .int (x1)] (S, M) (gX12_fresher S p0 x1 M) := by
  refine CT.of (by decide) (Nat.le_of_ble_eq_true rfl) ?_
  show AJ _ _ _ _ 0 [(0, .ref (p0)), (1, .int (x1))] [] _ _
  unfold gX12_fresher
  refine aj_aload_n (0) dX12_fresher_0 rfl rfl ?_
  refine aj_getR (TX := TX12) zc12 (by decide) rfl (Or.inl zg_1353) dX12_fresher_1 (fun r1 => ?_)
  refine aj_bipush (v := (7 : Int32)) dX12_fresher_4 (by decide) ?_
  refine aj_iload_n (1) dX12_fresher_6 rfl rfl ?_
  refine aj_iadd dX12_fresher_7 ?_
  refine r_iald dX12_fresher_8 (fun v2 => ?_)
  exact aj_iret dX12_fresher_9 rfl rfl rfl
def gX12_reads (S : List (Nat × Nat)) (p0 : Nat) (x1 : Int32) (x2 : Int32) (M : zM) : Option zM := zgR S M (p0) 12 66 3 (fun r1 => zbI S M (r1) (((7 : Int32) + x1)) (x2) (fun M2 => some M2))
set_option maxHeartbeats 4000000 in
set_option maxRecDepth 100000 in
theorem c_X12_reads (w : zWd) (S : List (Nat × Nat)) (p0 : Nat) (x1 : Int32) (x2 : Int32) (M : zM) : CT (zfVM S) w 1 mX12_reads [.ref (p0), .int (x1), .int (x2)] (S, M) (gX12_reads S p0 x1 x2 M) := by
  refine CT.of (by decide) (Nat.le_of_ble_eq_true rfl) ?_
  show AJ _ _ _ _ 0 [(0, .ref (p0)), (1, .int (x1)), (2, .int (x2))] [] _ _
  unfold gX12_reads
  refine aj_aload_n (0) dX12_reads_0 rfl rfl ?_
  refine aj_getR (TX := TX12) zc12 (by decide) rfl (Or.inl zg_1353) dX12_reads_1 (fun r1 => ?_)
  refine aj_bipush (v := (7 : Int32)) dX12_reads_4 (by decide) ?_
  refine aj_iload_n (1) dX12_reads_6 rfl rfl ?_
  refine aj_iadd dX12_reads_7 ?_
  refine aj_iload_n (2) dX12_reads_8 rfl rfl ?_
  refine r_iast dX12_reads_9 (fun M2 => ?_)
  exact aj_vret dX12_reads_10 rfl rfl
def gX12_tradeAhead_51 (S : List (Nat × Nat)) (p0 : Nat) (x0s : Int32) (M : zM) : Option (Int32 × zM) := zgI S M (p0) 12 66 24 (fun v1 => (if v1 = 0 then (if x0s = (-1 : Int32) then zrc S (p0) 12 66 ((gX12_wrong S (p0) ((4 : Int32)) M).bind (fun M6 => zrc S (p0) 12 66 ((gX12_goOn S (p0) M6).bind (fun M7 => zgI S M7 (p0) 12 66 24 (fun v8 => (if v8 = 0 then some (x0s, M7) else some ((0 : Int32), M7))))))) else zrc S (p0) 12 66 ((gX12_goOn S (p0) M).bind (fun M4 => zgI S M4 (p0) 12 66 24 (fun v5 => (if v5 = 0 then some (x0s, M4) else some ((0 : Int32), M4)))))) else zrc S (p0) 12 66 ((gX12_goOn S (p0) M).bind (fun M2 => zgI S M2 (p0) 12 66 24 (fun v3 => (if v3 = 0 then some (x0s, M2) else some ((0 : Int32), M2)))))))
set_option maxHeartbeats 4000000 in
set_option maxRecDepth 100000 in
theorem t_X12_tradeAhead_51 (w : zWd) (hz : zSZ w) (S : List (Nat × Nat)) (p0 : Nat) (x0s : Int32) (M : zM) : AJ (zfIM S) w 8 mX12_tradeAhead 51 [(0, .ref (p0))] [.int (x0s)] (S, M) (gX12_tradeAhead_51 S p0 x0s M) := by
  unfold gX12_tradeAhead_51
  refine aj_istore_n (ls2 := [(1, .int (x0s)), (0, .ref (p0))]) dX12_tradeAhead_51 rfl (Nat.le_of_ble_eq_true rfl) rfl ?_
  refine aj_aload_n (1) dX12_tradeAhead_52 rfl rfl ?_
  refine r_getI (TX := TX12) zc12 (by decide) rfl (Or.inl zg_1374) dX12_tradeAhead_53 (fun v1 => ?_)
  refine aj_if_ne (tgt := 69) dX12_tradeAhead_56 (by decide) (fun h => ?_) (fun h => ?_)
  · refine aj_aload_n (1) dX12_tradeAhead_69 rfl rfl ?_
    refine rV_VM (as := []) (c_X12_goOn w hz S _ _) mv_X12_goOn rfl zg_1627 (by decide) (Nat.le_of_ble_eq_true rfl) dX12_tradeAhead_70 (fun M2 => ?_)
    refine aj_aload_n (1) dX12_tradeAhead_73 rfl rfl ?_
    refine r_getI (TX := TX12) zc12 (by decide) rfl (Or.inl zg_1374) dX12_tradeAhead_74 (fun v3 => ?_)
    refine aj_if_eq (tgt := 84) dX12_tradeAhead_77 (by decide) (fun h => ?_) (fun h => ?_)
    · refine aj_iload_n (0) dX12_tradeAhead_84 rfl rfl ?_
      exact aj_iret dX12_tradeAhead_85 rfl rfl rfl
    refine aj_iconst (v := (0 : Int32)) dX12_tradeAhead_80 (by decide) ?_
    refine aj_goto (tgt := 85) dX12_tradeAhead_81 (by decide) ?_
    exact aj_iret dX12_tradeAhead_85 rfl rfl rfl
  refine aj_iload_n (0) dX12_tradeAhead_59 rfl rfl ?_
  refine aj_iconst (v := (-1 : Int32)) dX12_tradeAhead_60 (by decide) ?_
  refine aj_icmp_ne (tgt := 69) dX12_tradeAhead_61 (by decide) (fun h => ?_) (fun h => ?_)
  · refine aj_aload_n (1) dX12_tradeAhead_69 rfl rfl ?_
    refine rV_VM (as := []) (c_X12_goOn w hz S _ _) mv_X12_goOn rfl zg_1627 (by decide) (Nat.le_of_ble_eq_true rfl) dX12_tradeAhead_70 (fun M4 => ?_)
    refine aj_aload_n (1) dX12_tradeAhead_73 rfl rfl ?_
    refine r_getI (TX := TX12) zc12 (by decide) rfl (Or.inl zg_1374) dX12_tradeAhead_74 (fun v5 => ?_)
    refine aj_if_eq (tgt := 84) dX12_tradeAhead_77 (by decide) (fun h => ?_) (fun h => ?_)
    · refine aj_iload_n (0) dX12_tradeAhead_84 rfl rfl ?_
      exact aj_iret dX12_tradeAhead_85 rfl rfl rfl
    refine aj_iconst (v := (0 : Int32)) dX12_tradeAhead_80 (by decide) ?_
    refine aj_goto (tgt := 85) dX12_tradeAhead_81 (by decide) ?_
    exact aj_iret dX12_tradeAhead_85 rfl rfl rfl
  refine aj_aload_n (1) dX12_tradeAhead_64 rfl rfl ?_
  refine aj_iconst (v := (4 : Int32)) dX12_tradeAhead_65 (by decide) ?_
  refine rV_VM (as := [.int ((4 : Int32))]) (c_X12_wrong w S _ _ _) mv_X12_wrong rfl zg_1600 (by decide) (Nat.le_of_ble_eq_true rfl) dX12_tradeAhead_66 (fun M6 => ?_)
  refine aj_aload_n (1) dX12_tradeAhead_69 rfl rfl ?_
  refine rV_VM (as := []) (c_X12_goOn w hz S _ _) mv_X12_goOn rfl zg_1627 (by decide) (Nat.le_of_ble_eq_true rfl) dX12_tradeAhead_70 (fun M7 => ?_)
  refine aj_aload_n (1) dX12_tradeAhead_73 rfl rfl ?_
  refine r_getI (TX := TX12) zc12 (by decide) rfl (Or.inl zg_1374) dX12_tradeAhead_74 (fun v8 => ?_)
  refine aj_if_eq (tgt := 84) dX12_tradeAhead_77 (by decide) (fun h => ?_) (fun h => ?_)
  · refine aj_iload_n (0) dX12_tradeAhead_84 rfl rfl ?_
    exact aj_iret dX12_tradeAhead_85 rfl rfl rfl
  refine aj_iconst (v := (0 : Int32)) dX12_tradeAhead_80 (by decide) ?_
  refine aj_goto (tgt := 85) dX12_tradeAhead_81 (by decide) ?_
  exact aj_iret dX12_tradeAhead_85 rfl rfl rfl
def gX12_tradeAhead_22 (S : List (Nat × Nat)) (p0 : Nat) (M : zM) : Option (Int32 × zM) := zgI S M (p0) 12 66 24 (fun v1 => (if v1 = 0 then zgR S M (p0) 12 66 4 (fun r2 => zrc S (p0) 12 66 ((gX12_fresher S (p0) ((0 : Int32)) M).bind (fun v3 => zgI S M (p0) 12 66 23 (fun v4 => (gX12_found S (r2) ((6 : Int32)) (v3) (v4) M).bind (fun v5 => gX12_tradeAhead_51 S (p0) (v5) M))))) else gX12_tradeAhead_51 S (p0) ((0 : Int32)) M))
set_option maxHeartbeats 4000000 in
set_option maxRecDepth 100000 in
theorem t_X12_tradeAhead_22 (w : zWd) (hz : zSZ w) (S : List (Nat × Nat)) (p0 : Nat) (M : zM) : AJ (zfIM S) w 8 mX12_tradeAhead 22 [(0, .ref (p0))] [] (S, M) (gX12_tradeAhead_22 S p0 M) := by
  unfold gX12_tradeAhead_22
  refine aj_aload_n (0) dX12_tradeAhead_22 rfl rfl ?_
  refine r_getI (TX := TX12) zc12 (by decide) rfl (Or.inl zg_1374) dX12_tradeAhead_23 (fun v1 => ?_)
  refine aj_if_ne (tgt := 50) dX12_tradeAhead_26 (by decide) (fun h => ?_) (fun h => ?_)
  · refine aj_iconst (v := (0 : Int32)) dX12_tradeAhead_50 (by decide) ?_
    refine AJ.sub [0] rfl ?_
    exact t_X12_tradeAhead_51 w hz S (p0) ((0 : Int32)) M
  refine aj_aload_n (0) dX12_tradeAhead_29 rfl rfl ?_
  refine aj_getR (TX := TX12) zc12 (by decide) rfl (Or.inl zg_1354) dX12_tradeAhead_30 (fun r2 => ?_)
  refine aj_bipush (v := (6 : Int32)) dX12_tradeAhead_33 (by decide) ?_
  refine aj_aload_n (0) dX12_tradeAhead_35 rfl rfl ?_
  refine aj_iconst (v := (0 : Int32)) dX12_tradeAhead_36 (by decide) ?_
  refine rV_I (as := [.int ((0 : Int32))]) (c_X12_fresher w S _ _ _) mv_X12_fresher rfl zg_1608 (by decide) (Nat.le_of_ble_eq_true rfl) dX12_tradeAhead_37 (fun v3 => ?_)
  refine aj_aload_n (0) dX12_tradeAhead_40 rfl rfl ?_
  refine r_getI (TX := TX12) zc12 (by decide) rfl (Or.inl zg_1373) dX12_tradeAhead_41 (fun v4 => ?_)
  refine rS_I (as := [.ref (r2), .int ((6 : Int32)), .int (v3), .int (v4)]) (c_X12_found w S _ _ _ _ _) ms_X12_found rfl zg_1616 (by decide) (Nat.le_of_ble_eq_true rfl) dX12_tradeAhead_44 (fun v5 => ?_)
  refine aj_goto (tgt := 51) dX12_tradeAhead_47 (by decide) ?_
  refine AJ.sub [0] rfl ?_
  exact t_X12_tradeAhead_51 w hz S (p0) (v5) M
def gX12_tradeAhead (S : List (Nat × Nat)) (p0 : Nat) (M : zM) : Option (Int32 × zM) := zgI S M (p0) 12 66 24 (fun v1 => (if v1 = 0 then zgI S M (p0) 12 66 22 (fun v2 => (if v2 = (1 : Int32) then gX12_tradeAhead_22 S (p0) M else zrc S (p0) 12 66 ((gX12_wrong S (p0) ((1 : Int32)) M).bind (fun M3 => gX12_tradeAhead_22 S (p0) M3)))) else some ((0 : Int32), M)))
set_option maxHeartbeats 4000000 in
set_option maxRecDepth 100000 in
theorem c_X12_tradeAhead (w : zWd) (hz : zSZ w) (S : List (Nat × Nat)) (p0 : Nat) (M : zM) : CT (zfIM S) w 8 mX12_tradeAhead [.ref (p0)] (S, M) (gX12_tradeAhead S p0 M) := by
  refine CT.of (by decide) (Nat.le_of_ble_eq_true rfl) ?_
  show AJ _ _ _ _ 0 [(0, .ref (p0))] [] _ _
  unfold gX12_tradeAhead
  refine aj_aload_n (0) dX12_tradeAhead_0 rfl rfl ?_
  refine r_getI (TX := TX12) zc12 (by decide) rfl (Or.inl zg_1374) dX12_tradeAhead_1 (fun v1 => ?_)
  refine aj_if_eq (tgt := 9) dX12_tradeAhead_4 (by decide) (fun h => ?_) (fun h => ?_)
  · refine aj_aload_n (0) dX12_tradeAhead_9 rfl rfl ?_
    refine r_getI (TX := TX12) zc12 (by decide) rfl (Or.inl zg_1372) dX12_tradeAhead_10 (fun v2 => ?_)
    refine aj_iconst (v := (1 : Int32)) dX12_tradeAhead_13 (by decide) ?_
    refine aj_icmp_eq (tgt := 22) dX12_tradeAhead_14 (by decide) (fun h => ?_) (fun h => ?_)
    · refine AJ.sub [0] rfl ?_
      exact t_X12_tradeAhead_22 w hz S (p0) M
    refine aj_aload_n (0) dX12_tradeAhead_17 rfl rfl ?_
    refine aj_iconst (v := (1 : Int32)) dX12_tradeAhead_18 (by decide) ?_
    refine rV_VM (as := [.int ((1 : Int32))]) (c_X12_wrong w S _ _ _) mv_X12_wrong rfl zg_1600 (by decide) (Nat.le_of_ble_eq_true rfl) dX12_tradeAhead_19 (fun M3 => ?_)
    refine AJ.sub [0] rfl ?_
    exact t_X12_tradeAhead_22 w hz S (p0) M3
  refine aj_iconst (v := (0 : Int32)) dX12_tradeAhead_7 (by decide) ?_
  exact aj_iret dX12_tradeAhead_8 rfl rfl rfl
def gX12_isFull (S : List (Nat × Nat)) (p0 : Nat) (x1 : Int32) (M : zM) : Option Int32 := (if x1 = (0 : Int32) then zrc S (p0) 12 66 ((gX12_fresher S (p0) ((0 : Int32)) M).bind (fun v2 => (if v2 = (6 : Int32) then some ((1 : Int32)) else some ((0 : Int32))))) else (if x1 = (1 : Int32) then zrc S (p0) 12 66 ((gX12_fresher S (p0) ((1 : Int32)) M).bind (fun v4 => (if v4 = (12 : Int32) then some ((1 : Int32)) else some ((0 : Int32))))) else (if x1 = (2 : Int32) then zrc S (p0) 12 66 ((gX12_fresher S (p0) ((2 : Int32)) M).bind (fun v6 => (if v6 = (10 : Int32) then some ((1 : Int32)) else some ((0 : Int32))))) else (if x1 = (3 : Int32) then zrc S (p0) 12 66 ((gX12_fresher S (p0) ((3 : Int32)) M).bind (fun v8 => (if v8 = (5 : Int32) then some ((1 : Int32)) else some ((0 : Int32))))) else some ((0 : Int32))))))
set_option maxHeartbeats 4000000 in
set_option maxRecDepth 100000 in
theorem c_X12_isFull (w : zWd) (S : List (Nat × Nat)) (p0 : Nat) (x1 : Int32) (M : zM) : CT (zfI S M) w 2 mX12_isFull [.ref (p0), .int (x1)] (S, M) (gX12_isFull S p0 x1 M) := by
  refine CT.of (by decide) (Nat.le_of_ble_eq_true rfl) ?_
  show AJ _ _ _ _ 0 [(0, .ref (p0)), (1, .int (x1))] [] _ _
  unfold gX12_isFull
  refine aj_iload_n (1) dX12_isFull_0 rfl rfl ?_
  refine aj_ite (fun h => ?_) (fun h1 => ?_)
  · have h9 : x1 = (0 : Int32) := h
    refine aj_tsw (tgt := 32) (off := 31) dX12_isFull_1 (by rw [h9]; decide) (by rw [h9]; decide) (by rw [h9]; decide +kernel) (by decide) ?_
    refine aj_aload_n (0) dX12_isFull_32 rfl rfl ?_
    refine aj_iconst (v := (0 : Int32)) dX12_isFull_33 (by decide) ?_
    refine rV_I (as := [.int ((0 : Int32))]) (c_X12_fresher w S _ _ _) mv_X12_fresher rfl zg_1608 (by decide) (Nat.le_of_ble_eq_true rfl) dX12_isFull_34 (fun v2 => ?_)
    refine aj_bipush (v := (6 : Int32)) dX12_isFull_37 (by decide) ?_
    refine aj_icmp_ne (tgt := 46) dX12_isFull_39 (by decide) (fun h => ?_) (fun h => ?_)
    · refine aj_iconst (v := (0 : Int32)) dX12_isFull_46 (by decide) ?_
      exact aj_iret dX12_isFull_47 rfl (by decide +kernel) rfl
    refine aj_iconst (v := (1 : Int32)) dX12_isFull_42 (by decide) ?_
    refine aj_goto (tgt := 47) dX12_isFull_43 (by decide) ?_
    exact aj_iret dX12_isFull_47 rfl (by decide +kernel) rfl
  refine aj_ite (fun h => ?_) (fun h3 => ?_)
  · have h9 : x1 = (1 : Int32) := h
    refine aj_tsw (tgt := 48) (off := 47) dX12_isFull_1 (by rw [h9]; decide) (by rw [h9]; decide) (by rw [h9]; decide +kernel) (by decide) ?_
    refine aj_aload_n (0) dX12_isFull_48 rfl rfl ?_
    refine aj_iconst (v := (1 : Int32)) dX12_isFull_49 (by decide) ?_
    refine rV_I (as := [.int ((1 : Int32))]) (c_X12_fresher w S _ _ _) mv_X12_fresher rfl zg_1608 (by decide) (Nat.le_of_ble_eq_true rfl) dX12_isFull_50 (fun v4 => ?_)
    refine aj_bipush (v := (12 : Int32)) dX12_isFull_53 (by decide) ?_
    refine aj_icmp_ne (tgt := 62) dX12_isFull_55 (by decide) (fun h => ?_) (fun h => ?_)
    · refine aj_iconst (v := (0 : Int32)) dX12_isFull_62 (by decide) ?_
      exact aj_iret dX12_isFull_63 rfl (by decide +kernel) rfl
    refine aj_iconst (v := (1 : Int32)) dX12_isFull_58 (by decide) ?_
    refine aj_goto (tgt := 63) dX12_isFull_59 (by decide) ?_
    exact aj_iret dX12_isFull_63 rfl (by decide +kernel) rfl
  refine aj_ite (fun h => ?_) (fun h5 => ?_)
  · have h9 : x1 = (2 : Int32) := h
    refine aj_tsw (tgt := 64) (off := 63) dX12_isFull_1 (by rw [h9]; decide) (by rw [h9]; decide) (by rw [h9]; decide +kernel) (by decide) ?_
    refine aj_aload_n (0) dX12_isFull_64 rfl rfl ?_
    refine aj_iconst (v := (2 : Int32)) dX12_isFull_65 (by decide) ?_
    refine rV_I (as := [.int ((2 : Int32))]) (c_X12_fresher w S _ _ _) mv_X12_fresher rfl zg_1608 (by decide) (Nat.le_of_ble_eq_true rfl) dX12_isFull_66 (fun v6 => ?_)
    refine aj_bipush (v := (10 : Int32)) dX12_isFull_69 (by decide) ?_
    refine aj_icmp_ne (tgt := 78) dX12_isFull_71 (by decide) (fun h => ?_) (fun h => ?_)
    · refine aj_iconst (v := (0 : Int32)) dX12_isFull_78 (by decide) ?_
      exact aj_iret dX12_isFull_79 rfl (by decide +kernel) rfl
    refine aj_iconst (v := (1 : Int32)) dX12_isFull_74 (by decide) ?_
    refine aj_goto (tgt := 79) dX12_isFull_75 (by decide) ?_
    exact aj_iret dX12_isFull_79 rfl (by decide +kernel) rfl
  refine aj_ite (fun h => ?_) (fun h7 => ?_)
  · have h9 : x1 = (3 : Int32) := h
    refine aj_tsw (tgt := 80) (off := 79) dX12_isFull_1 (by rw [h9]; decide) (by rw [h9]; decide) (by rw [h9]; decide +kernel) (by decide) ?_
    refine aj_aload_n (0) dX12_isFull_80 rfl rfl ?_
    refine aj_iconst (v := (3 : Int32)) dX12_isFull_81 (by decide) ?_
    refine rV_I (as := [.int ((3 : Int32))]) (c_X12_fresher w S _ _ _) mv_X12_fresher rfl zg_1608 (by decide) (Nat.le_of_ble_eq_true rfl) dX12_isFull_82 (fun v8 => ?_)
    refine aj_iconst (v := (5 : Int32)) dX12_isFull_85 (by decide) ?_
    refine aj_icmp_ne (tgt := 93) dX12_isFull_86 (by decide) (fun h => ?_) (fun h => ?_)
    · refine aj_iconst (v := (0 : Int32)) dX12_isFull_93 (by decide) ?_
      exact aj_iret dX12_isFull_94 rfl (by decide +kernel) rfl
    refine aj_iconst (v := (1 : Int32)) dX12_isFull_89 (by decide) ?_
    refine aj_goto (tgt := 94) dX12_isFull_90 (by decide) ?_
    exact aj_iret dX12_isFull_94 rfl (by decide +kernel) rfl
  refine aj_tswO (tgt := 95) dX12_isFull_1 (by have a0 := lv_neT (k := (0 : Int32)) h1 (a := 0) (by decide); have a1 := lv_neT (k := (1 : Int32)) h3 (a := 1) (by decide); have a2 := lv_neT (k := (2 : Int32)) h5 (a := 2) (by decide); have a3 := lv_neT (k := (3 : Int32)) h7 (a := 3) (by decide); omega) (by decide) ?_
  refine aj_iconst (v := (0 : Int32)) dX12_isFull_95 (by decide) ?_
  exact aj_iret dX12_isFull_96 rfl (by decide +kernel) rfl
def gX12_claimLine_50 (S : List (Nat × Nat)) (p0 : Nat) (x1 : Int32) (M : zM) : Option zM := zrc S (p0) 12 66 (zb2 (gX12_numeral S (p0) ((0 : Int32)) ((99 : Int32)) M) (fun v1 M2 => zgI S M2 (p0) 12 66 24 (fun v3 => (if v3 = 0 then zgR S M2 (p0) 12 66 8 (fun r4 => zbI S M2 (r4) (((100 : Int32) + v1)) (x1) (fun M5 => zrc S (p0) 12 66 ((gX12_fresher S (p0) ((2 : Int32)) M5).bind (fun v6 => zrc S (p0) 12 66 ((gX12_reads S (p0) ((2 : Int32)) ((v6 + (1 : Int32))) M5).bind (fun M7 => some M7)))))) else some M2))))
set_option maxHeartbeats 4000000 in
set_option maxRecDepth 100000 in
theorem t_X12_claimLine_50 (w : zWd) (hz : zSZ w) (S : List (Nat × Nat)) (p0 : Nat) (x1 : Int32) (M : zM) : AJ (zfVM S) w 9 mX12_claimLine 50 [(0, .ref (p0)), (1, .int (x1))] [] (S, M) (gX12_claimLine_50 S p0 x1 M) := by
  unfold gX12_claimLine_50
  refine aj_aload_n (0) dX12_claimLine_50 rfl rfl ?_
  refine aj_iconst (v := (0 : Int32)) dX12_claimLine_51 (by decide) ?_
  refine aj_bipush (v := (99 : Int32)) dX12_claimLine_52 (by decide) ?_
  refine rV_IM (as := [.int ((0 : Int32)), .int ((99 : Int32))]) (c_X12_numeral w hz S _ _ _ _) mv_X12_numeral rfl zg_1619 (by decide) (Nat.le_of_ble_eq_true rfl) dX12_claimLine_54 (fun v1 M2 => ?_)
  refine aj_istore_n (ls2 := [(2, .int (v1)), (0, .ref (p0)), (1, .int (x1))]) dX12_claimLine_57 rfl (Nat.le_of_ble_eq_true rfl) rfl ?_
  refine aj_aload_n (1) dX12_claimLine_58 rfl rfl ?_
  refine r_getI (TX := TX12) zc12 (by decide) rfl (Or.inl zg_1374) dX12_claimLine_59 (fun v3 => ?_)
  refine aj_if_eq (tgt := 66) dX12_claimLine_62 (by decide) (fun h => ?_) (fun h => ?_)
  · refine aj_aload_n (1) dX12_claimLine_66 rfl rfl ?_
    refine aj_getR (TX := TX12) zc12 (by decide) rfl (Or.inl zg_1358) dX12_claimLine_67 (fun r4 => ?_)
    refine aj_bipush (v := (100 : Int32)) dX12_claimLine_70 (by decide) ?_
    refine aj_iload_n (0) dX12_claimLine_72 rfl rfl ?_
    refine aj_iadd dX12_claimLine_73 ?_
    refine aj_iload_n (2) dX12_claimLine_74 rfl rfl ?_
    refine r_iast dX12_claimLine_75 (fun M5 => ?_)
    refine aj_aload_n (1) dX12_claimLine_76 rfl rfl ?_
    refine aj_iconst (v := (2 : Int32)) dX12_claimLine_77 (by decide) ?_
    refine aj_aload_n (1) dX12_claimLine_78 rfl rfl ?_
    refine aj_iconst (v := (2 : Int32)) dX12_claimLine_79 (by decide) ?_
    refine rV_I (as := [.int ((2 : Int32))]) (c_X12_fresher w S _ _ _) mv_X12_fresher rfl zg_1608 (by decide) (Nat.le_of_ble_eq_true rfl) dX12_claimLine_80 (fun v6 => ?_)
    refine aj_iconst (v := (1 : Int32)) dX12_claimLine_83 (by decide) ?_
    refine aj_iadd dX12_claimLine_84 ?_
    refine rV_VM (as := [.int ((2 : Int32)), .int ((v6 + (1 : Int32)))]) (c_X12_reads w S _ _ _ _) mv_X12_reads rfl zg_1562 (by decide) (Nat.le_of_ble_eq_true rfl) dX12_claimLine_85 (fun M7 => ?_)
    exact aj_vret dX12_claimLine_88 rfl rfl
  exact aj_vret dX12_claimLine_65 rfl rfl
def gX12_claimLine (S : List (Nat × Nat)) (p0 : Nat) (M : zM) : Option zM := zrc S (p0) 12 66 (zb2 (gX12_tradeAhead S (p0) M) (fun v1 M2 => zgI S M2 (p0) 12 66 24 (fun v3 => (if v3 = 0 then zgI S M2 (p0) 12 66 22 (fun v4 => (if v4 = (2 : Int32) then zgI S M2 (p0) 12 66 23 (fun v5 => (if (100 : Int32) ≤ v5 then gX12_claimLine_50 S (p0) (v1) M2 else zgR S M2 (p0) 12 66 8 (fun r6 => zgI S M2 (p0) 12 66 23 (fun v7 => zaI S M2 100 (r6) (((100 : Int32) + v7)) (fun v8 => (if v8 = (-1 : Int32) then gX12_claimLine_50 S (p0) (v1) M2 else zrc S (p0) 12 66 ((gX12_wrong S (p0) ((3 : Int32)) M2).bind (fun M9 => gX12_claimLine_50 S (p0) (v1) M9)))))))) else gX12_claimLine_50 S (p0) (v1) M2)) else gX12_claimLine_50 S (p0) (v1) M2))))
set_option maxHeartbeats 4000000 in
set_option maxRecDepth 100000 in
theorem c_X12_claimLine (w : zWd) (hz : zSZ w) (S : List (Nat × Nat)) (p0 : Nat) (M : zM) : CT (zfVM S) w 9 mX12_claimLine [.ref (p0)] (S, M) (gX12_claimLine S p0 M) := by
  refine CT.of (by decide) (Nat.le_of_ble_eq_true rfl) ?_
  show AJ _ _ _ _ 0 [(0, .ref (p0))] [] _ _
  unfold gX12_claimLine
  refine aj_aload_n (0) dX12_claimLine_0 rfl rfl ?_
  refine rV_IM (as := []) (c_X12_tradeAhead w hz S _ _) mv_X12_tradeAhead rfl zg_1623 (by decide) (Nat.le_of_ble_eq_true rfl) dX12_claimLine_1 (fun v1 M2 => ?_)
  refine aj_istore_n (ls2 := [(1, .int (v1)), (0, .ref (p0))]) dX12_claimLine_4 rfl (Nat.le_of_ble_eq_true rfl) rfl ?_
  refine aj_aload_n (1) dX12_claimLine_5 rfl rfl ?_
  refine r_getI (TX := TX12) zc12 (by decide) rfl (Or.inl zg_1374) dX12_claimLine_6 (fun v3 => ?_)
  refine aj_if_ne (tgt := 50) dX12_claimLine_9 (by decide) (fun h => ?_) (fun h => ?_)
  · refine AJ.sub [1, 0] rfl ?_
    exact t_X12_claimLine_50 w hz S (p0) (v1) M2
  refine aj_aload_n (1) dX12_claimLine_12 rfl rfl ?_
  refine r_getI (TX := TX12) zc12 (by decide) rfl (Or.inl zg_1372) dX12_claimLine_13 (fun v4 => ?_)
  refine aj_iconst (v := (2 : Int32)) dX12_claimLine_16 (by decide) ?_
  refine aj_icmp_ne (tgt := 50) dX12_claimLine_17 (by decide) (fun h => ?_) (fun h => ?_)
  · refine AJ.sub [1, 0] rfl ?_
    exact t_X12_claimLine_50 w hz S (p0) (v1) M2
  refine aj_aload_n (1) dX12_claimLine_20 rfl rfl ?_
  refine r_getI (TX := TX12) zc12 (by decide) rfl (Or.inl zg_1373) dX12_claimLine_21 (fun v5 => ?_)
  refine aj_bipush (v := (100 : Int32)) dX12_claimLine_24 (by decide) ?_
  refine aj_icmp_ge (tgt := 50) dX12_claimLine_26 (by decide) (fun h => ?_) (fun h => ?_)
  · refine AJ.sub [1, 0] rfl ?_
    exact t_X12_claimLine_50 w hz S (p0) (v1) M2
  refine aj_aload_n (1) dX12_claimLine_29 rfl rfl ?_
  refine aj_getR (TX := TX12) zc12 (by decide) rfl (Or.inl zg_1358) dX12_claimLine_30 (fun r6 => ?_)
  refine aj_bipush (v := (100 : Int32)) dX12_claimLine_33 (by decide) ?_
  refine aj_aload_n (1) dX12_claimLine_35 rfl rfl ?_
  refine r_getI (TX := TX12) zc12 (by decide) rfl (Or.inl zg_1373) dX12_claimLine_36 (fun v7 => ?_)
  refine aj_iadd dX12_claimLine_39 ?_
  refine r_iald dX12_claimLine_40 (fun v8 => ?_)
  refine aj_iconst (v := (-1 : Int32)) dX12_claimLine_41 (by decide) ?_
  refine aj_icmp_eq (tgt := 50) dX12_claimLine_42 (by decide) (fun h => ?_) (fun h => ?_)
  · refine AJ.sub [1, 0] rfl ?_
    exact t_X12_claimLine_50 w hz S (p0) (v1) M2
  refine aj_aload_n (1) dX12_claimLine_45 rfl rfl ?_
  refine aj_iconst (v := (3 : Int32)) dX12_claimLine_46 (by decide) ?_
  refine rV_VM (as := [.int ((3 : Int32))]) (c_X12_wrong w S _ _ _) mv_X12_wrong rfl zg_1600 (by decide) (Nat.le_of_ble_eq_true rfl) dX12_claimLine_47 (fun M9 => ?_)
  refine AJ.sub [1, 0] rfl ?_
  exact t_X12_claimLine_50 w hz S (p0) (v1) M9
def gX12_knot (S : List (Nat × Nat)) (p0 : Nat) (M : zM) : Option zM := zgI S M (p0) 12 66 24 (fun v1 => (if v1 = 0 then zgI S M (p0) 12 66 29 (fun v2 => (if v2 = (64 : Int32) then zrc S (p0) 12 66 ((gX12_wrong S (p0) ((2 : Int32)) M).bind (fun M5 => some M5)) else zgI S M (p0) 12 66 29 (fun v3 => zpI S M (p0) 12 66 29 ((v3 + (1 : Int32))) (fun M4 => some M4)))) else some M))
set_option maxHeartbeats 4000000 in
set_option maxRecDepth 100000 in
theorem c_X12_knot (w : zWd) (S : List (Nat × Nat)) (p0 : Nat) (M : zM) : CT (zfVM S) w 2 mX12_knot [.ref (p0)] (S, M) (gX12_knot S p0 M) := by
  refine CT.of (by decide) (Nat.le_of_ble_eq_true rfl) ?_
  show AJ _ _ _ _ 0 [(0, .ref (p0))] [] _ _
  unfold gX12_knot
  refine aj_aload_n (0) dX12_knot_0 rfl rfl ?_
  refine r_getI (TX := TX12) zc12 (by decide) rfl (Or.inl zg_1374) dX12_knot_1 (fun v1 => ?_)
  refine aj_if_eq (tgt := 8) dX12_knot_4 (by decide) (fun h => ?_) (fun h => ?_)
  · refine aj_aload_n (0) dX12_knot_8 rfl rfl ?_
    refine r_getI (TX := TX12) zc12 (by decide) rfl (Or.inl zg_1379) dX12_knot_9 (fun v2 => ?_)
    refine aj_bipush (v := (64 : Int32)) dX12_knot_12 (by decide) ?_
    refine aj_icmp_ne (tgt := 25) dX12_knot_14 (by decide) (fun h => ?_) (fun h => ?_)
    · refine aj_aload_n (0) dX12_knot_25 rfl rfl ?_
      refine aj_dup dX12_knot_26 rfl ?_
      refine r_getI (TX := TX12) zc12 (by decide) rfl (Or.inl zg_1379) dX12_knot_27 (fun v3 => ?_)
      refine aj_iconst (v := (1 : Int32)) dX12_knot_30 (by decide) ?_
      refine aj_iadd dX12_knot_31 ?_
      refine r_putI (TX := TX12) zc12 (by decide) rfl rfl rfl rfl (Or.inl zg_1379) dX12_knot_32 (fun M4 => ?_)
      exact aj_vret dX12_knot_35 rfl rfl
    refine aj_aload_n (0) dX12_knot_17 rfl rfl ?_
    refine aj_iconst (v := (2 : Int32)) dX12_knot_18 (by decide) ?_
    refine rV_VM (as := [.int ((2 : Int32))]) (c_X12_wrong w S _ _ _) mv_X12_wrong rfl zg_1600 (by decide) (Nat.le_of_ble_eq_true rfl) dX12_knot_19 (fun M5 => ?_)
    refine aj_goto (tgt := 35) dX12_knot_22 (by decide) ?_
    exact aj_vret dX12_knot_35 rfl rfl
  exact aj_vret dX12_knot_7 rfl rfl
def gX12_puts (S : List (Nat × Nat)) (p0 : Nat) (x1 : Int32) (x2 : Int32) (M : zM) : Option zM := zgI S M (p0) 12 66 24 (fun v1 => (if v1 = 0 then zgR S M (p0) 12 66 15 (fun r2 => zrc S (p0) 12 66 ((gX12_fresher S (p0) ((6 : Int32)) M).bind (fun v3 => zbI S M (r2) (((64 : Int32) + v3)) (x1) (fun M4 => zgR S M4 (p0) 12 66 16 (fun r5 => zrc S (p0) 12 66 ((gX12_fresher S (p0) ((6 : Int32)) M4).bind (fun v6 => zbI S M4 (r5) (((64 : Int32) + v6)) (x2) (fun M7 => zrc S (p0) 12 66 ((gX12_fresher S (p0) ((6 : Int32)) M7).bind (fun v8 => zrc S (p0) 12 66 ((gX12_reads S (p0) ((6 : Int32)) ((v8 + (1 : Int32))) M7).bind (fun M9 => some M9)))))))))))) else some M))
set_option maxHeartbeats 4000000 in
set_option maxRecDepth 100000 in
theorem c_X12_puts (w : zWd) (S : List (Nat × Nat)) (p0 : Nat) (x1 : Int32) (x2 : Int32) (M : zM) : CT (zfVM S) w 2 mX12_puts [.ref (p0), .int (x1), .int (x2)] (S, M) (gX12_puts S p0 x1 x2 M) := by
  refine CT.of (by decide) (Nat.le_of_ble_eq_true rfl) ?_
  show AJ _ _ _ _ 0 [(0, .ref (p0)), (1, .int (x1)), (2, .int (x2))] [] _ _
  unfold gX12_puts
  refine aj_aload_n (0) dX12_puts_0 rfl rfl ?_
  refine r_getI (TX := TX12) zc12 (by decide) rfl (Or.inl zg_1374) dX12_puts_1 (fun v1 => ?_)
  refine aj_if_eq (tgt := 8) dX12_puts_4 (by decide) (fun h => ?_) (fun h => ?_)
  · refine aj_aload_n (0) dX12_puts_8 rfl rfl ?_
    refine aj_getR (TX := TX12) zc12 (by decide) rfl (Or.inl zg_1365) dX12_puts_9 (fun r2 => ?_)
    refine aj_bipush (v := (64 : Int32)) dX12_puts_12 (by decide) ?_
    refine aj_aload_n (0) dX12_puts_14 rfl rfl ?_
    refine aj_bipush (v := (6 : Int32)) dX12_puts_15 (by decide) ?_
    refine rV_I (as := [.int ((6 : Int32))]) (c_X12_fresher w S _ _ _) mv_X12_fresher rfl zg_1608 (by decide) (Nat.le_of_ble_eq_true rfl) dX12_puts_17 (fun v3 => ?_)
    refine aj_iadd dX12_puts_20 ?_
    refine aj_iload_n (1) dX12_puts_21 rfl rfl ?_
    refine r_iast dX12_puts_22 (fun M4 => ?_)
    refine aj_aload_n (0) dX12_puts_23 rfl rfl ?_
    refine aj_getR (TX := TX12) zc12 (by decide) rfl (Or.inl zg_1366) dX12_puts_24 (fun r5 => ?_)
    refine aj_bipush (v := (64 : Int32)) dX12_puts_27 (by decide) ?_
    refine aj_aload_n (0) dX12_puts_29 rfl rfl ?_
    refine aj_bipush (v := (6 : Int32)) dX12_puts_30 (by decide) ?_
    refine rV_I (as := [.int ((6 : Int32))]) (c_X12_fresher w S _ _ _) mv_X12_fresher rfl zg_1608 (by decide) (Nat.le_of_ble_eq_true rfl) dX12_puts_32 (fun v6 => ?_)
    refine aj_iadd dX12_puts_35 ?_
    refine aj_iload_n (2) dX12_puts_36 rfl rfl ?_
    refine r_iast dX12_puts_37 (fun M7 => ?_)
    refine aj_aload_n (0) dX12_puts_38 rfl rfl ?_
    refine aj_bipush (v := (6 : Int32)) dX12_puts_39 (by decide) ?_
    refine aj_aload_n (0) dX12_puts_41 rfl rfl ?_
    refine aj_bipush (v := (6 : Int32)) dX12_puts_42 (by decide) ?_
    refine rV_I (as := [.int ((6 : Int32))]) (c_X12_fresher w S _ _ _) mv_X12_fresher rfl zg_1608 (by decide) (Nat.le_of_ble_eq_true rfl) dX12_puts_44 (fun v8 => ?_)
    refine aj_iconst (v := (1 : Int32)) dX12_puts_47 (by decide) ?_
    refine aj_iadd dX12_puts_48 ?_
    refine rV_VM (as := [.int ((6 : Int32)), .int ((v8 + (1 : Int32)))]) (c_X12_reads w S _ _ _ _) mv_X12_reads rfl zg_1562 (by decide) (Nat.le_of_ble_eq_true rfl) dX12_puts_49 (fun M9 => ?_)
    exact aj_vret dX12_puts_52 rfl rfl
  exact aj_vret dX12_puts_7 rfl rfl
def gX12_primary_176 (S : List (Nat × Nat)) (rk : Nat → zM → Option zM) (p0 : Nat) (x1 : Int32) (x0s : Int32) (p1s : Nat) (M : zM) : Option zM := (if x1 = 0 then zgI S M (p0) 12 66 23 (fun v1 => zrc S (p1s) 12 66 ((gX12_puts S (p1s) (x0s) ((v1 - (13 : Int32))) M).bind (fun M2 => zrc S (p0) 12 66 ((gX12_goOn S (p0) M2).bind (fun M3 => some M3))))) else zgI S M (p0) 12 66 23 (fun v4 => zrc S (p1s) 12 66 ((gX12_puts S (p1s) (x0s) (v4) M).bind (fun M5 => zrc S (p0) 12 66 ((gX12_goOn S (p0) M5).bind (fun M6 => some M6))))))
set_option maxHeartbeats 4000000 in
set_option maxRecDepth 100000 in
theorem t_X12_primary_176 (w : zWd) (hz : zSZ w) (S : List (Nat × Nat)) (rk : Nat → zM → Option zM) (dE : Nat) (hdE : 30 ≤ dE) (hrk : ∀ (p0 : Nat) (M : zM), CT (zfVM S) w dE mX12_expression [.ref (p0)] (S, M) (rk p0 M)) (p0 : Nat) (x1 : Int32) (x0s : Int32) (p1s : Nat) (M : zM) : AJ (zfVM S) w (dE + 1) mX12_primary 176 [(0, .ref (p0)), (1, .int (x1))] [.int (x0s), .ref (p1s)] (S, M) (gX12_primary_176 S rk p0 x1 x0s p1s M) := by
  unfold gX12_primary_176
  refine aj_iload_n (1) dX12_primary_176 rfl rfl ?_
  refine aj_if_eq (tgt := 187) dX12_primary_177 (by decide) (fun h => ?_) (fun h => ?_)
  · refine aj_aload_n (0) dX12_primary_187 rfl rfl ?_
    refine r_getI (TX := TX12) zc12 (by decide) rfl (Or.inl zg_1373) dX12_primary_188 (fun v1 => ?_)
    refine aj_bipush (v := (13 : Int32)) dX12_primary_191 (by decide) ?_
    refine aj_isub dX12_primary_193 ?_
    refine rV_VM (as := [.int (x0s), .int ((v1 - (13 : Int32)))]) (c_X12_puts w S _ _ _ _) mv_X12_puts rfl zg_1659 (by omega) (Nat.le_of_ble_eq_true rfl) dX12_primary_194 (fun M2 => ?_)
    refine aj_aload_n (0) dX12_primary_197 rfl rfl ?_
    refine rV_VM (as := []) (c_X12_goOn w hz S _ _) mv_X12_goOn rfl zg_1627 (by omega) (Nat.le_of_ble_eq_true rfl) dX12_primary_198 (fun M3 => ?_)
    exact aj_vret dX12_primary_201 rfl rfl
  refine aj_aload_n (0) dX12_primary_180 rfl rfl ?_
  refine r_getI (TX := TX12) zc12 (by decide) rfl (Or.inl zg_1373) dX12_primary_181 (fun v4 => ?_)
  refine aj_goto (tgt := 194) dX12_primary_184 (by decide) ?_
  refine rV_VM (as := [.int (x0s), .int (v4)]) (c_X12_puts w S _ _ _ _) mv_X12_puts rfl zg_1659 (by omega) (Nat.le_of_ble_eq_true rfl) dX12_primary_194 (fun M5 => ?_)
  refine aj_aload_n (0) dX12_primary_197 rfl rfl ?_
  refine rV_VM (as := []) (c_X12_goOn w hz S _ _) mv_X12_goOn rfl zg_1627 (by omega) (Nat.le_of_ble_eq_true rfl) dX12_primary_198 (fun M6 => ?_)
  exact aj_vret dX12_primary_201 rfl rfl
def gX12_primary_137 (S : List (Nat × Nat)) (rk : Nat → zM → Option zM) (p0 : Nat) (x1 : Int32) (M : zM) : Option zM := (if x1 = 0 then zgI S M (p0) 12 66 22 (fun v2 => (if v2 = 0 then zgI S M (p0) 12 66 23 (fun v5 => (if (13 : Int32) ≤ v5 then zrc S (p0) 12 66 ((gX12_knot S (p0) M).bind (fun M6 => (if x1 = 0 then gX12_primary_176 S rk (p0) (x1) ((1 : Int32)) (p0) M6 else gX12_primary_176 S rk (p0) (x1) ((0 : Int32)) (p0) M6))) else zrc S (p0) 12 66 ((gX12_wrong S (p0) ((1 : Int32)) M).bind (fun M7 => zrc S (p0) 12 66 ((gX12_knot S (p0) M7).bind (fun M8 => (if x1 = 0 then gX12_primary_176 S rk (p0) (x1) ((1 : Int32)) (p0) M8 else gX12_primary_176 S rk (p0) (x1) ((0 : Int32)) (p0) M8))))))) else zrc S (p0) 12 66 ((gX12_wrong S (p0) ((1 : Int32)) M).bind (fun M3 => zrc S (p0) 12 66 ((gX12_knot S (p0) M3).bind (fun M4 => (if x1 = 0 then gX12_primary_176 S rk (p0) (x1) ((1 : Int32)) (p0) M4 else gX12_primary_176 S rk (p0) (x1) ((0 : Int32)) (p0) M4))))))) else zrc S (p0) 12 66 ((gX12_knot S (p0) M).bind (fun M1 => (if x1 = 0 then gX12_primary_176 S rk (p0) (x1) ((1 : Int32)) (p0) M1 else gX12_primary_176 S rk (p0) (x1) ((0 : Int32)) (p0) M1))))
set_option maxHeartbeats 4000000 in
set_option maxRecDepth 100000 in
theorem t_X12_primary_137 (w : zWd) (hz : zSZ w) (S : List (Nat × Nat)) (rk : Nat → zM → Option zM) (dE : Nat) (hdE : 30 ≤ dE) (hrk : ∀ (p0 : Nat) (M : zM), CT (zfVM S) w dE mX12_expression [.ref (p0)] (S, M) (rk p0 M)) (p0 : Nat) (x1 : Int32) (M : zM) : AJ (zfVM S) w (dE + 1) mX12_primary 137 [(0, .ref (p0)), (1, .int (x1))] [] (S, M) (gX12_primary_137 S rk p0 x1 M) := by
  unfold gX12_primary_137
  refine aj_iload_n (1) dX12_primary_137 rfl rfl ?_
  refine aj_if_ne (tgt := 162) dX12_primary_138 (by decide) (fun h => ?_) (fun h => ?_)
  · refine aj_aload_n (0) dX12_primary_162 rfl rfl ?_
    refine rV_VM (as := []) (c_X12_knot w S _ _) mv_X12_knot rfl zg_1655 (by omega) (Nat.le_of_ble_eq_true rfl) dX12_primary_163 (fun M1 => ?_)
    refine aj_aload_n (0) dX12_primary_166 rfl rfl ?_
    refine aj_iload_n (1) dX12_primary_167 rfl rfl ?_
    refine aj_if_eq (tgt := 175) dX12_primary_168 (by decide) (fun h => ?_) (fun h => ?_)
    · refine aj_iconst (v := (1 : Int32)) dX12_primary_175 (by decide) ?_
      refine AJ.sub [0, 1] rfl ?_
      exact t_X12_primary_176 w hz S rk dE hdE hrk (p0) (x1) ((1 : Int32)) (p0) M1
    refine aj_iconst (v := (0 : Int32)) dX12_primary_171 (by decide) ?_
    refine aj_goto (tgt := 176) dX12_primary_172 (by decide) ?_
    refine AJ.sub [0, 1] rfl ?_
    exact t_X12_primary_176 w hz S rk dE hdE hrk (p0) (x1) ((0 : Int32)) (p0) M1
  refine aj_aload_n (0) dX12_primary_141 rfl rfl ?_
  refine r_getI (TX := TX12) zc12 (by decide) rfl (Or.inl zg_1372) dX12_primary_142 (fun v2 => ?_)
  refine aj_if_ne (tgt := 157) dX12_primary_145 (by decide) (fun h => ?_) (fun h => ?_)
  · refine aj_aload_n (0) dX12_primary_157 rfl rfl ?_
    refine aj_iconst (v := (1 : Int32)) dX12_primary_158 (by decide) ?_
    refine rV_VM (as := [.int ((1 : Int32))]) (c_X12_wrong w S _ _ _) mv_X12_wrong rfl zg_1600 (by omega) (Nat.le_of_ble_eq_true rfl) dX12_primary_159 (fun M3 => ?_)
    refine aj_aload_n (0) dX12_primary_162 rfl rfl ?_
    refine rV_VM (as := []) (c_X12_knot w S _ _) mv_X12_knot rfl zg_1655 (by omega) (Nat.le_of_ble_eq_true rfl) dX12_primary_163 (fun M4 => ?_)
    refine aj_aload_n (0) dX12_primary_166 rfl rfl ?_
    refine aj_iload_n (1) dX12_primary_167 rfl rfl ?_
    refine aj_if_eq (tgt := 175) dX12_primary_168 (by decide) (fun h => ?_) (fun h => ?_)
    · refine aj_iconst (v := (1 : Int32)) dX12_primary_175 (by decide) ?_
      refine AJ.sub [0, 1] rfl ?_
      exact t_X12_primary_176 w hz S rk dE hdE hrk (p0) (x1) ((1 : Int32)) (p0) M4
    refine aj_iconst (v := (0 : Int32)) dX12_primary_171 (by decide) ?_
    refine aj_goto (tgt := 176) dX12_primary_172 (by decide) ?_
    refine AJ.sub [0, 1] rfl ?_
    exact t_X12_primary_176 w hz S rk dE hdE hrk (p0) (x1) ((0 : Int32)) (p0) M4
  refine aj_aload_n (0) dX12_primary_148 rfl rfl ?_
  refine r_getI (TX := TX12) zc12 (by decide) rfl (Or.inl zg_1373) dX12_primary_149 (fun v5 => ?_)
  refine aj_bipush (v := (13 : Int32)) dX12_primary_152 (by decide) ?_
  refine aj_icmp_ge (tgt := 162) dX12_primary_154 (by decide) (fun h => ?_) (fun h => ?_)
  · refine aj_aload_n (0) dX12_primary_162 rfl rfl ?_
    refine rV_VM (as := []) (c_X12_knot w S _ _) mv_X12_knot rfl zg_1655 (by omega) (Nat.le_of_ble_eq_true rfl) dX12_primary_163 (fun M6 => ?_)
    refine aj_aload_n (0) dX12_primary_166 rfl rfl ?_
    refine aj_iload_n (1) dX12_primary_167 rfl rfl ?_
    refine aj_if_eq (tgt := 175) dX12_primary_168 (by decide) (fun h => ?_) (fun h => ?_)
    · refine aj_iconst (v := (1 : Int32)) dX12_primary_175 (by decide) ?_
      refine AJ.sub [0, 1] rfl ?_
      exact t_X12_primary_176 w hz S rk dE hdE hrk (p0) (x1) ((1 : Int32)) (p0) M6
    refine aj_iconst (v := (0 : Int32)) dX12_primary_171 (by decide) ?_
    refine aj_goto (tgt := 176) dX12_primary_172 (by decide) ?_
    refine AJ.sub [0, 1] rfl ?_
    exact t_X12_primary_176 w hz S rk dE hdE hrk (p0) (x1) ((0 : Int32)) (p0) M6
  refine aj_aload_n (0) dX12_primary_157 rfl rfl ?_
  refine aj_iconst (v := (1 : Int32)) dX12_primary_158 (by decide) ?_
  refine rV_VM (as := [.int ((1 : Int32))]) (c_X12_wrong w S _ _ _) mv_X12_wrong rfl zg_1600 (by omega) (Nat.le_of_ble_eq_true rfl) dX12_primary_159 (fun M7 => ?_)
  refine aj_aload_n (0) dX12_primary_162 rfl rfl ?_
  refine rV_VM (as := []) (c_X12_knot w S _ _) mv_X12_knot rfl zg_1655 (by omega) (Nat.le_of_ble_eq_true rfl) dX12_primary_163 (fun M8 => ?_)
  refine aj_aload_n (0) dX12_primary_166 rfl rfl ?_
  refine aj_iload_n (1) dX12_primary_167 rfl rfl ?_
  refine aj_if_eq (tgt := 175) dX12_primary_168 (by decide) (fun h => ?_) (fun h => ?_)
  · refine aj_iconst (v := (1 : Int32)) dX12_primary_175 (by decide) ?_
    refine AJ.sub [0, 1] rfl ?_
    exact t_X12_primary_176 w hz S rk dE hdE hrk (p0) (x1) ((1 : Int32)) (p0) M8
  refine aj_iconst (v := (0 : Int32)) dX12_primary_171 (by decide) ?_
  refine aj_goto (tgt := 176) dX12_primary_172 (by decide) ?_
  refine AJ.sub [0, 1] rfl ?_
  exact t_X12_primary_176 w hz S rk dE hdE hrk (p0) (x1) ((0 : Int32)) (p0) M8
def gX12_primary_114 (S : List (Nat × Nat)) (rk : Nat → zM → Option zM) (p0 : Nat) (x0s : Int32) (M : zM) : Option zM := (if x0s = 0 then gX12_primary_137 S rk (p0) (x0s) M else zgI S M (p0) 12 66 23 (fun v1 => (if v1 ≤ (9999 : Int32) then gX12_primary_137 S rk (p0) (x0s) M else zrc S (p0) 12 66 ((gX12_wrong S (p0) ((2 : Int32)) M).bind (fun M2 => zrc S (p0) 12 66 ((gX12_knot S (p0) M2).bind (fun M3 => (if x0s = 0 then gX12_primary_176 S rk (p0) (x0s) ((1 : Int32)) (p0) M3 else gX12_primary_176 S rk (p0) (x0s) ((0 : Int32)) (p0) M3))))))))
set_option maxHeartbeats 4000000 in
set_option maxRecDepth 100000 in
theorem t_X12_primary_114 (w : zWd) (hz : zSZ w) (S : List (Nat × Nat)) (rk : Nat → zM → Option zM) (dE : Nat) (hdE : 30 ≤ dE) (hrk : ∀ (p0 : Nat) (M : zM), CT (zfVM S) w dE mX12_expression [.ref (p0)] (S, M) (rk p0 M)) (p0 : Nat) (x0s : Int32) (M : zM) : AJ (zfVM S) w (dE + 1) mX12_primary 114 [(0, .ref (p0))] [.int (x0s)] (S, M) (gX12_primary_114 S rk p0 x0s M) := by
  unfold gX12_primary_114
  refine aj_istore_n (ls2 := [(1, .int (x0s)), (0, .ref (p0))]) dX12_primary_114 rfl (Nat.le_of_ble_eq_true rfl) rfl ?_
  refine aj_iload_n (0) dX12_primary_115 rfl rfl ?_
  refine aj_if_eq (tgt := 137) dX12_primary_116 (by decide) (fun h => ?_) (fun h => ?_)
  · refine AJ.sub [1, 0] rfl ?_
    exact t_X12_primary_137 w hz S rk dE hdE hrk (p0) (x0s) M
  refine aj_aload_n (1) dX12_primary_119 rfl rfl ?_
  refine r_getI (TX := TX12) zc12 (by decide) rfl (Or.inl zg_1373) dX12_primary_120 (fun v1 => ?_)
  refine aj_sipush (v := (9999 : Int32)) dX12_primary_123 (by decide) ?_
  refine aj_icmp_le (tgt := 137) dX12_primary_126 (by decide) (fun h => ?_) (fun h => ?_)
  · refine AJ.sub [1, 0] rfl ?_
    exact t_X12_primary_137 w hz S rk dE hdE hrk (p0) (x0s) M
  refine aj_aload_n (1) dX12_primary_129 rfl rfl ?_
  refine aj_iconst (v := (2 : Int32)) dX12_primary_130 (by decide) ?_
  refine rV_VM (as := [.int ((2 : Int32))]) (c_X12_wrong w S _ _ _) mv_X12_wrong rfl zg_1600 (by omega) (Nat.le_of_ble_eq_true rfl) dX12_primary_131 (fun M2 => ?_)
  refine aj_goto (tgt := 162) dX12_primary_134 (by decide) ?_
  refine aj_aload_n (1) dX12_primary_162 rfl rfl ?_
  refine rV_VM (as := []) (c_X12_knot w S _ _) mv_X12_knot rfl zg_1655 (by omega) (Nat.le_of_ble_eq_true rfl) dX12_primary_163 (fun M3 => ?_)
  refine aj_aload_n (1) dX12_primary_166 rfl rfl ?_
  refine aj_iload_n (0) dX12_primary_167 rfl rfl ?_
  refine aj_if_eq (tgt := 175) dX12_primary_168 (by decide) (fun h => ?_) (fun h => ?_)
  · refine aj_iconst (v := (1 : Int32)) dX12_primary_175 (by decide) ?_
    refine AJ.sub [1, 0] rfl ?_
    exact t_X12_primary_176 w hz S rk dE hdE hrk (p0) (x0s) ((1 : Int32)) (p0) M3
  refine aj_iconst (v := (0 : Int32)) dX12_primary_171 (by decide) ?_
  refine aj_goto (tgt := 176) dX12_primary_172 (by decide) ?_
  refine AJ.sub [1, 0] rfl ?_
  exact t_X12_primary_176 w hz S rk dE hdE hrk (p0) (x0s) ((0 : Int32)) (p0) M3
def gX12_primary_31 (S : List (Nat × Nat)) (rk : Nat → zM → Option zM) (p0 : Nat) (M : zM) : Option zM := zgI S M (p0) 12 66 24 (fun v1 => (if v1 = 0 then zgI S M (p0) 12 66 28 (fun v2 => zpI S M (p0) 12 66 28 ((v2 + (1 : Int32))) (fun M3 => zrc S (p0) 12 66 ((gX12_token S (p0) M3).bind (fun M4 => zrc S (p0) 12 66 ((rk (p0) M4).bind (fun M5 => zgI S M5 (p0) 12 66 24 (fun v6 => (if v6 = 0 then zrc S (p0) 12 66 ((gX12_isSign S (p0) ((41 : Int32)) M5).bind (fun v11 => (if v11 = 0 then zrc S (p0) 12 66 ((gX12_wrong S (p0) ((1 : Int32)) M5).bind (fun M16 => zgI S M16 (p0) 12 66 24 (fun v17 => (if v17 = 0 then zgI S M16 (p0) 12 66 28 (fun v18 => zpI S M16 (p0) 12 66 28 ((v18 - (1 : Int32))) (fun M19 => zrc S (p0) 12 66 ((gX12_token S (p0) M19).bind (fun M20 => some M20)))) else some M16)))) else zgI S M5 (p0) 12 66 24 (fun v12 => (if v12 = 0 then zgI S M5 (p0) 12 66 28 (fun v13 => zpI S M5 (p0) 12 66 28 ((v13 - (1 : Int32))) (fun M14 => zrc S (p0) 12 66 ((gX12_token S (p0) M14).bind (fun M15 => some M15)))) else some M5))))) else zgI S M5 (p0) 12 66 24 (fun v7 => (if v7 = 0 then zgI S M5 (p0) 12 66 28 (fun v8 => zpI S M5 (p0) 12 66 28 ((v8 - (1 : Int32))) (fun M9 => zrc S (p0) 12 66 ((gX12_token S (p0) M9).bind (fun M10 => some M10)))) else some M5)))))))))) else some M))
set_option maxHeartbeats 4000000 in
set_option maxRecDepth 100000 in
theorem t_X12_primary_31 (w : zWd) (hz : zSZ w) (S : List (Nat × Nat)) (rk : Nat → zM → Option zM) (dE : Nat) (hdE : 30 ≤ dE) (hrk : ∀ (p0 : Nat) (M : zM), CT (zfVM S) w dE mX12_expression [.ref (p0)] (S, M) (rk p0 M)) (p0 : Nat) (M : zM) : AJ (zfVM S) w (dE + 1) mX12_primary 31 [(0, .ref (p0))] [] (S, M) (gX12_primary_31 S rk p0 M) := by
  unfold gX12_primary_31
  refine aj_aload_n (0) dX12_primary_31 rfl rfl ?_
  refine r_getI (TX := TX12) zc12 (by decide) rfl (Or.inl zg_1374) dX12_primary_32 (fun v1 => ?_)
  refine aj_if_eq (tgt := 39) dX12_primary_35 (by decide) (fun h => ?_) (fun h => ?_)
  · refine aj_aload_n (0) dX12_primary_39 rfl rfl ?_
    refine aj_dup dX12_primary_40 rfl ?_
    refine r_getI (TX := TX12) zc12 (by decide) rfl (Or.inl zg_1378) dX12_primary_41 (fun v2 => ?_)
    refine aj_iconst (v := (1 : Int32)) dX12_primary_44 (by decide) ?_
    refine aj_iadd dX12_primary_45 ?_
    refine r_putI (TX := TX12) zc12 (by decide) rfl rfl rfl rfl (Or.inl zg_1378) dX12_primary_46 (fun M3 => ?_)
    refine aj_aload_n (0) dX12_primary_49 rfl rfl ?_
    refine rV_VM (as := []) (c_X12_token w hz S _ _) mv_X12_token rfl zg_1566 (by omega) (Nat.le_of_ble_eq_true rfl) dX12_primary_50 (fun M4 => ?_)
    refine aj_aload_n (0) dX12_primary_53 rfl rfl ?_
    refine rV_VM (as := []) (hrk _ _) mv_X12_expression rfl zg_1639 (by omega) (Nat.le_of_ble_eq_true rfl) dX12_primary_54 (fun M5 => ?_)
    refine aj_aload_n (0) dX12_primary_57 rfl rfl ?_
    refine r_getI (TX := TX12) zc12 (by decide) rfl (Or.inl zg_1374) dX12_primary_58 (fun v6 => ?_)
    refine aj_if_ne (tgt := 78) dX12_primary_61 (by decide) (fun h => ?_) (fun h => ?_)
    · refine aj_aload_n (0) dX12_primary_78 rfl rfl ?_
      refine r_getI (TX := TX12) zc12 (by decide) rfl (Or.inl zg_1374) dX12_primary_79 (fun v7 => ?_)
      refine aj_if_eq (tgt := 86) dX12_primary_82 (by decide) (fun h => ?_) (fun h => ?_)
      · refine aj_aload_n (0) dX12_primary_86 rfl rfl ?_
        refine aj_dup dX12_primary_87 rfl ?_
        refine r_getI (TX := TX12) zc12 (by decide) rfl (Or.inl zg_1378) dX12_primary_88 (fun v8 => ?_)
        refine aj_iconst (v := (1 : Int32)) dX12_primary_91 (by decide) ?_
        refine aj_isub dX12_primary_92 ?_
        refine r_putI (TX := TX12) zc12 (by decide) rfl rfl rfl rfl (Or.inl zg_1378) dX12_primary_93 (fun M9 => ?_)
        refine aj_aload_n (0) dX12_primary_96 rfl rfl ?_
        refine rV_VM (as := []) (c_X12_token w hz S _ _) mv_X12_token rfl zg_1566 (by omega) (Nat.le_of_ble_eq_true rfl) dX12_primary_97 (fun M10 => ?_)
        exact aj_vret dX12_primary_100 rfl rfl
      exact aj_vret dX12_primary_85 rfl rfl
    refine aj_aload_n (0) dX12_primary_64 rfl rfl ?_
    refine aj_bipush (v := (41 : Int32)) dX12_primary_65 (by decide) ?_
    refine rV_I (as := [.int ((41 : Int32))]) (c_X12_isSign w S _ _ _) mv_X12_isSign rfl zg_1675 (by omega) (Nat.le_of_ble_eq_true rfl) dX12_primary_67 (fun v11 => ?_)
    refine aj_if_ne (tgt := 78) dX12_primary_70 (by decide) (fun h => ?_) (fun h => ?_)
    · refine aj_aload_n (0) dX12_primary_78 rfl rfl ?_
      refine r_getI (TX := TX12) zc12 (by decide) rfl (Or.inl zg_1374) dX12_primary_79 (fun v12 => ?_)
      refine aj_if_eq (tgt := 86) dX12_primary_82 (by decide) (fun h => ?_) (fun h => ?_)
      · refine aj_aload_n (0) dX12_primary_86 rfl rfl ?_
        refine aj_dup dX12_primary_87 rfl ?_
        refine r_getI (TX := TX12) zc12 (by decide) rfl (Or.inl zg_1378) dX12_primary_88 (fun v13 => ?_)
        refine aj_iconst (v := (1 : Int32)) dX12_primary_91 (by decide) ?_
        refine aj_isub dX12_primary_92 ?_
        refine r_putI (TX := TX12) zc12 (by decide) rfl rfl rfl rfl (Or.inl zg_1378) dX12_primary_93 (fun M14 => ?_)
        refine aj_aload_n (0) dX12_primary_96 rfl rfl ?_
        refine rV_VM (as := []) (c_X12_token w hz S _ _) mv_X12_token rfl zg_1566 (by omega) (Nat.le_of_ble_eq_true rfl) dX12_primary_97 (fun M15 => ?_)
        exact aj_vret dX12_primary_100 rfl rfl
      exact aj_vret dX12_primary_85 rfl rfl
    refine aj_aload_n (0) dX12_primary_73 rfl rfl ?_
    refine aj_iconst (v := (1 : Int32)) dX12_primary_74 (by decide) ?_
    refine rV_VM (as := [.int ((1 : Int32))]) (c_X12_wrong w S _ _ _) mv_X12_wrong rfl zg_1600 (by omega) (Nat.le_of_ble_eq_true rfl) dX12_primary_75 (fun M16 => ?_)
    refine aj_aload_n (0) dX12_primary_78 rfl rfl ?_
    refine r_getI (TX := TX12) zc12 (by decide) rfl (Or.inl zg_1374) dX12_primary_79 (fun v17 => ?_)
    refine aj_if_eq (tgt := 86) dX12_primary_82 (by decide) (fun h => ?_) (fun h => ?_)
    · refine aj_aload_n (0) dX12_primary_86 rfl rfl ?_
      refine aj_dup dX12_primary_87 rfl ?_
      refine r_getI (TX := TX12) zc12 (by decide) rfl (Or.inl zg_1378) dX12_primary_88 (fun v18 => ?_)
      refine aj_iconst (v := (1 : Int32)) dX12_primary_91 (by decide) ?_
      refine aj_isub dX12_primary_92 ?_
      refine r_putI (TX := TX12) zc12 (by decide) rfl rfl rfl rfl (Or.inl zg_1378) dX12_primary_93 (fun M19 => ?_)
      refine aj_aload_n (0) dX12_primary_96 rfl rfl ?_
      refine rV_VM (as := []) (c_X12_token w hz S _ _) mv_X12_token rfl zg_1566 (by omega) (Nat.le_of_ble_eq_true rfl) dX12_primary_97 (fun M20 => ?_)
      exact aj_vret dX12_primary_100 rfl rfl
    exact aj_vret dX12_primary_85 rfl rfl
  exact aj_vret dX12_primary_38 rfl rfl
def gX12_primary (S : List (Nat × Nat)) (rk : Nat → zM → Option zM) (p0 : Nat) (M : zM) : Option zM := zgI S M (p0) 12 66 24 (fun v1 => (if v1 = 0 then zrc S (p0) 12 66 ((gX12_isSign S (p0) ((40 : Int32)) M).bind (fun v2 => (if v2 = 0 then zgI S M (p0) 12 66 22 (fun v3 => (if v3 = (2 : Int32) then gX12_primary_114 S rk (p0) ((1 : Int32)) M else gX12_primary_114 S rk (p0) ((0 : Int32)) M)) else zgI S M (p0) 12 66 28 (fun v4 => (if v4 = (8 : Int32) then zrc S (p0) 12 66 ((gX12_wrong S (p0) ((2 : Int32)) M).bind (fun M5 => gX12_primary_31 S rk (p0) M5)) else gX12_primary_31 S rk (p0) M))))) else some M))
set_option maxHeartbeats 4000000 in
set_option maxRecDepth 100000 in
theorem c_X12_primaryB (w : zWd) (hz : zSZ w) (S : List (Nat × Nat)) (rk : Nat → zM → Option zM) (dE : Nat) (hdE : 30 ≤ dE) (hrk : ∀ (p0 : Nat) (M : zM), CT (zfVM S) w dE mX12_expression [.ref (p0)] (S, M) (rk p0 M)) (p0 : Nat) (M : zM) : CT (zfVM S) w (dE + 1) mX12_primary [.ref (p0)] (S, M) (gX12_primary S rk p0 M) := by
  refine CT.of (by decide) (Nat.le_of_ble_eq_true rfl) ?_
  show AJ _ _ _ _ 0 [(0, .ref (p0))] [] _ _
  unfold gX12_primary
  refine aj_aload_n (0) dX12_primary_0 rfl rfl ?_
  refine r_getI (TX := TX12) zc12 (by decide) rfl (Or.inl zg_1374) dX12_primary_1 (fun v1 => ?_)
  refine aj_if_eq (tgt := 8) dX12_primary_4 (by decide) (fun h => ?_) (fun h => ?_)
  · refine aj_aload_n (0) dX12_primary_8 rfl rfl ?_
    refine aj_bipush (v := (40 : Int32)) dX12_primary_9 (by decide) ?_
    refine rV_I (as := [.int ((40 : Int32))]) (c_X12_isSign w S _ _ _) mv_X12_isSign rfl zg_1675 (by omega) (Nat.le_of_ble_eq_true rfl) dX12_primary_11 (fun v2 => ?_)
    refine aj_if_eq (tgt := 101) dX12_primary_14 (by decide) (fun h => ?_) (fun h => ?_)
    · refine aj_aload_n (0) dX12_primary_101 rfl rfl ?_
      refine r_getI (TX := TX12) zc12 (by decide) rfl (Or.inl zg_1372) dX12_primary_102 (fun v3 => ?_)
      refine aj_iconst (v := (2 : Int32)) dX12_primary_105 (by decide) ?_
      refine aj_icmp_ne (tgt := 113) dX12_primary_106 (by decide) (fun h => ?_) (fun h => ?_)
      · refine aj_iconst (v := (0 : Int32)) dX12_primary_113 (by decide) ?_
        refine AJ.sub [0] rfl ?_
        exact t_X12_primary_114 w hz S rk dE hdE hrk (p0) ((0 : Int32)) M
      refine aj_iconst (v := (1 : Int32)) dX12_primary_109 (by decide) ?_
      refine aj_goto (tgt := 114) dX12_primary_110 (by decide) ?_
      refine AJ.sub [0] rfl ?_
      exact t_X12_primary_114 w hz S rk dE hdE hrk (p0) ((1 : Int32)) M
    refine aj_aload_n (0) dX12_primary_17 rfl rfl ?_
    refine r_getI (TX := TX12) zc12 (by decide) rfl (Or.inl zg_1378) dX12_primary_18 (fun v4 => ?_)
    refine aj_bipush (v := (8 : Int32)) dX12_primary_21 (by decide) ?_
    refine aj_icmp_ne (tgt := 31) dX12_primary_23 (by decide) (fun h => ?_) (fun h => ?_)
    · refine AJ.sub [0] rfl ?_
      exact t_X12_primary_31 w hz S rk dE hdE hrk (p0) M
    refine aj_aload_n (0) dX12_primary_26 rfl rfl ?_
    refine aj_iconst (v := (2 : Int32)) dX12_primary_27 (by decide) ?_
    refine rV_VM (as := [.int ((2 : Int32))]) (c_X12_wrong w S _ _ _) mv_X12_wrong rfl zg_1600 (by omega) (Nat.le_of_ble_eq_true rfl) dX12_primary_28 (fun M5 => ?_)
    refine AJ.sub [0] rfl ?_
    exact t_X12_primary_31 w hz S rk dE hdE hrk (p0) M5
  exact aj_vret dX12_primary_7 rfl rfl
def gX12_product_22 (S : List (Nat × Nat)) (rk : Nat → zM → Option zM) (k4 : Nat → zM → Option zM) (p0 : Nat) (M : zM) : Option zM := zgI S M (p0) 12 66 23 (fun v1 => zrc S (p0) 12 66 ((gX12_knot S (p0) M).bind (fun M2 => zrc S (p0) 12 66 ((gX12_goOn S (p0) M2).bind (fun M3 => zrc S (p0) 12 66 ((gX12_primary S rk (p0) M3).bind (fun M4 => zrc S (p0) 12 66 ((gX12_puts S (p0) ((2 : Int32)) (v1) M4).bind (fun M5 => k4 (p0) M5)))))))))
set_option maxHeartbeats 4000000 in
set_option maxRecDepth 100000 in
theorem t_X12_product_22 (w : zWd) (hz : zSZ w) (S : List (Nat × Nat)) (rk : Nat → zM → Option zM) (dE : Nat) (hdE : 30 ≤ dE) (hrk : ∀ (p0 : Nat) (M : zM), CT (zfVM S) w dE mX12_expression [.ref (p0)] (S, M) (rk p0 M)) (k4 : Nat → zM → Option zM) (hk4 : ∀ (p0 : Nat) (M : zM), AJ (zfVM S) w (dE + 2) mX12_product 4 [(0, .ref (p0))] [] (S, M) (k4 p0 M)) (p0 : Nat) (M : zM) : AJ (zfVM S) w (dE + 2) mX12_product 22 [(0, .ref (p0))] [] (S, M) (gX12_product_22 S rk k4 p0 M) := by
  unfold gX12_product_22
  refine aj_aload_n (0) dX12_product_22 rfl rfl ?_
  refine r_getI (TX := TX12) zc12 (by decide) rfl (Or.inl zg_1373) dX12_product_23 (fun v1 => ?_)
  refine aj_istore_n (ls2 := [(1, .int (v1)), (0, .ref (p0))]) dX12_product_26 rfl (Nat.le_of_ble_eq_true rfl) rfl ?_
  refine aj_aload_n (1) dX12_product_27 rfl rfl ?_
  refine rV_VM (as := []) (c_X12_knot w S _ _) mv_X12_knot rfl zg_1655 (by omega) (Nat.le_of_ble_eq_true rfl) dX12_product_28 (fun M2 => ?_)
  refine aj_aload_n (1) dX12_product_31 rfl rfl ?_
  refine rV_VM (as := []) (c_X12_goOn w hz S _ _) mv_X12_goOn rfl zg_1627 (by omega) (Nat.le_of_ble_eq_true rfl) dX12_product_32 (fun M3 => ?_)
  refine aj_aload_n (1) dX12_product_35 rfl rfl ?_
  refine rV_VM (as := []) (c_X12_primaryB w hz S rk dE hdE hrk _ _) mv_X12_primary rfl zg_1671 (by omega) (Nat.le_of_ble_eq_true rfl) dX12_product_36 (fun M4 => ?_)
  refine aj_aload_n (1) dX12_product_39 rfl rfl ?_
  refine aj_iconst (v := (2 : Int32)) dX12_product_40 (by decide) ?_
  refine aj_iload_n (0) dX12_product_41 rfl rfl ?_
  refine rV_VM (as := [.int ((2 : Int32)), .int (v1)]) (c_X12_puts w S _ _ _ _) mv_X12_puts rfl zg_1659 (by omega) (Nat.le_of_ble_eq_true rfl) dX12_product_42 (fun M5 => ?_)
  refine aj_goto (tgt := 4) dX12_product_45 (by decide) ?_
  refine AJ.sub [1] rfl ?_
  exact hk4 (p0) M5
def gX12_product_4 (S : List (Nat × Nat)) (rk : Nat → zM → Option zM) : Nat → Nat → zM → Option zM
  | 0 => fun _ _ => none
  | n + 1 => fun p0 M => zrc S (p0) 12 66 ((gX12_isSign S (p0) ((42 : Int32)) M).bind (fun v1 => (if v1 = 0 then zrc S (p0) 12 66 ((gX12_isSign S (p0) ((47 : Int32)) M).bind (fun v2 => (if v2 = 0 then some M else gX12_product_22 S rk (gX12_product_4 S rk  n) (p0) M))) else gX12_product_22 S rk (gX12_product_4 S rk  n) (p0) M)))
set_option maxHeartbeats 4000000 in
set_option maxRecDepth 100000 in
theorem t_X12_product_4 (w : zWd) (hz : zSZ w) (S : List (Nat × Nat)) (rk : Nat → zM → Option zM) (dE : Nat) (hdE : 30 ≤ dE) (hrk : ∀ (p0 : Nat) (M : zM), CT (zfVM S) w dE mX12_expression [.ref (p0)] (S, M) (rk p0 M)) (fu : Nat) : ∀ (p0 : Nat) (M : zM), AJ (zfVM S) w (dE + 2) mX12_product 4 [(0, .ref (p0))] [] (S, M) (gX12_product_4 S rk fu p0 M) := by
  induction fu with
  | zero => intro p0 M; exact AJ.none
  | succ n ih =>
    intro p0 M
    unfold gX12_product_4
    refine aj_aload_n (0) dX12_product_4 rfl rfl ?_
    refine aj_bipush (v := (42 : Int32)) dX12_product_5 (by decide) ?_
    refine rV_I (as := [.int ((42 : Int32))]) (c_X12_isSign w S _ _ _) mv_X12_isSign rfl zg_1675 (by omega) (Nat.le_of_ble_eq_true rfl) dX12_product_7 (fun v1 => ?_)
    refine aj_if_ne (tgt := 22) dX12_product_10 (by decide) (fun h => ?_) (fun h => ?_)
    · refine AJ.sub [0] rfl ?_
      exact t_X12_product_22 w hz S rk dE hdE hrk (gX12_product_4 S rk  n) ih (p0) M
    refine aj_aload_n (0) dX12_product_13 rfl rfl ?_
    refine aj_bipush (v := (47 : Int32)) dX12_product_14 (by decide) ?_
    refine rV_I (as := [.int ((47 : Int32))]) (c_X12_isSign w S _ _ _) mv_X12_isSign rfl zg_1675 (by omega) (Nat.le_of_ble_eq_true rfl) dX12_product_16 (fun v2 => ?_)
    refine aj_if_eq (tgt := 48) dX12_product_19 (by decide) (fun h => ?_) (fun h => ?_)
    · exact aj_vret dX12_product_48 rfl rfl
    refine AJ.sub [0] rfl ?_
    exact t_X12_product_22 w hz S rk dE hdE hrk (gX12_product_4 S rk  n) ih (p0) M
def gX12_product (S : List (Nat × Nat)) (rk : Nat → zM → Option zM) (p0 : Nat) (M : zM) : Option zM := zrc S (p0) 12 66 ((gX12_primary S rk (p0) M).bind (fun M1 => gX12_product_4 S rk zfu (p0) M1))
set_option maxHeartbeats 4000000 in
set_option maxRecDepth 100000 in
theorem c_X12_productB (w : zWd) (hz : zSZ w) (S : List (Nat × Nat)) (rk : Nat → zM → Option zM) (dE : Nat) (hdE : 30 ≤ dE) (hrk : ∀ (p0 : Nat) (M : zM), CT (zfVM S) w dE mX12_expression [.ref (p0)] (S, M) (rk p0 M)) (p0 : Nat) (M : zM) : CT (zfVM S) w (dE + 2) mX12_product [.ref (p0)] (S, M) (gX12_product S rk p0 M) := by
  refine CT.of (by decide) (Nat.le_of_ble_eq_true rfl) ?_
  show AJ _ _ _ _ 0 [(0, .ref (p0))] [] _ _
  unfold gX12_product
  refine aj_aload_n (0) dX12_product_0 rfl rfl ?_
  refine rV_VM (as := []) (c_X12_primaryB w hz S rk dE hdE hrk _ _) mv_X12_primary rfl zg_1671 (by omega) (Nat.le_of_ble_eq_true rfl) dX12_product_1 (fun M1 => ?_)
  refine AJ.sub [0] rfl ?_
  exact t_X12_product_4 w hz S rk dE hdE hrk zfu (p0) M1
def gX12_sum_22 (S : List (Nat × Nat)) (rk : Nat → zM → Option zM) (k4 : Nat → zM → Option zM) (p0 : Nat) (M : zM) : Option zM := zgI S M (p0) 12 66 23 (fun v1 => zrc S (p0) 12 66 ((gX12_knot S (p0) M).bind (fun M2 => zrc S (p0) 12 66 ((gX12_goOn S (p0) M2).bind (fun M3 => zrc S (p0) 12 66 ((gX12_product S rk (p0) M3).bind (fun M4 => zrc S (p0) 12 66 ((gX12_puts S (p0) ((2 : Int32)) (v1) M4).bind (fun M5 => k4 (p0) M5)))))))))
set_option maxHeartbeats 4000000 in
set_option maxRecDepth 100000 in
theorem t_X12_sum_22 (w : zWd) (hz : zSZ w) (S : List (Nat × Nat)) (rk : Nat → zM → Option zM) (dE : Nat) (hdE : 30 ≤ dE) (hrk : ∀ (p0 : Nat) (M : zM), CT (zfVM S) w dE mX12_expression [.ref (p0)] (S, M) (rk p0 M)) (k4 : Nat → zM → Option zM) (hk4 : ∀ (p0 : Nat) (M : zM), AJ (zfVM S) w (dE + 3) mX12_sum 4 [(0, .ref (p0))] [] (S, M) (k4 p0 M)) (p0 : Nat) (M : zM) : AJ (zfVM S) w (dE + 3) mX12_sum 22 [(0, .ref (p0))] [] (S, M) (gX12_sum_22 S rk k4 p0 M) := by
  unfold gX12_sum_22
  refine aj_aload_n (0) dX12_sum_22 rfl rfl ?_
  refine r_getI (TX := TX12) zc12 (by decide) rfl (Or.inl zg_1373) dX12_sum_23 (fun v1 => ?_)
  refine aj_istore_n (ls2 := [(1, .int (v1)), (0, .ref (p0))]) dX12_sum_26 rfl (Nat.le_of_ble_eq_true rfl) rfl ?_
  refine aj_aload_n (1) dX12_sum_27 rfl rfl ?_
  refine rV_VM (as := []) (c_X12_knot w S _ _) mv_X12_knot rfl zg_1655 (by omega) (Nat.le_of_ble_eq_true rfl) dX12_sum_28 (fun M2 => ?_)
  refine aj_aload_n (1) dX12_sum_31 rfl rfl ?_
  refine rV_VM (as := []) (c_X12_goOn w hz S _ _) mv_X12_goOn rfl zg_1627 (by omega) (Nat.le_of_ble_eq_true rfl) dX12_sum_32 (fun M3 => ?_)
  refine aj_aload_n (1) dX12_sum_35 rfl rfl ?_
  refine rV_VM (as := []) (c_X12_productB w hz S rk dE hdE hrk _ _) mv_X12_product rfl zg_1667 (by omega) (Nat.le_of_ble_eq_true rfl) dX12_sum_36 (fun M4 => ?_)
  refine aj_aload_n (1) dX12_sum_39 rfl rfl ?_
  refine aj_iconst (v := (2 : Int32)) dX12_sum_40 (by decide) ?_
  refine aj_iload_n (0) dX12_sum_41 rfl rfl ?_
  refine rV_VM (as := [.int ((2 : Int32)), .int (v1)]) (c_X12_puts w S _ _ _ _) mv_X12_puts rfl zg_1659 (by omega) (Nat.le_of_ble_eq_true rfl) dX12_sum_42 (fun M5 => ?_)
  refine aj_goto (tgt := 4) dX12_sum_45 (by decide) ?_
  refine AJ.sub [1] rfl ?_
  exact hk4 (p0) M5
def gX12_sum_4 (S : List (Nat × Nat)) (rk : Nat → zM → Option zM) : Nat → Nat → zM → Option zM
  | 0 => fun _ _ => none
  | n + 1 => fun p0 M => zrc S (p0) 12 66 ((gX12_isSign S (p0) ((43 : Int32)) M).bind (fun v1 => (if v1 = 0 then zrc S (p0) 12 66 ((gX12_isSign S (p0) ((45 : Int32)) M).bind (fun v2 => (if v2 = 0 then some M else gX12_sum_22 S rk (gX12_sum_4 S rk  n) (p0) M))) else gX12_sum_22 S rk (gX12_sum_4 S rk  n) (p0) M)))
set_option maxHeartbeats 4000000 in
set_option maxRecDepth 100000 in
theorem t_X12_sum_4 (w : zWd) (hz : zSZ w) (S : List (Nat × Nat)) (rk : Nat → zM → Option zM) (dE : Nat) (hdE : 30 ≤ dE) (hrk : ∀ (p0 : Nat) (M : zM), CT (zfVM S) w dE mX12_expression [.ref (p0)] (S, M) (rk p0 M)) (fu : Nat) : ∀ (p0 : Nat) (M : zM), AJ (zfVM S) w (dE + 3) mX12_sum 4 [(0, .ref (p0))] [] (S, M) (gX12_sum_4 S rk fu p0 M) := by
  induction fu with
  | zero => intro p0 M; exact AJ.none
  | succ n ih =>
    intro p0 M
    unfold gX12_sum_4
    refine aj_aload_n (0) dX12_sum_4 rfl rfl ?_
    refine aj_bipush (v := (43 : Int32)) dX12_sum_5 (by decide) ?_
    refine rV_I (as := [.int ((43 : Int32))]) (c_X12_isSign w S _ _ _) mv_X12_isSign rfl zg_1675 (by omega) (Nat.le_of_ble_eq_true rfl) dX12_sum_7 (fun v1 => ?_)
    refine aj_if_ne (tgt := 22) dX12_sum_10 (by decide) (fun h => ?_) (fun h => ?_)
    · refine AJ.sub [0] rfl ?_
      exact t_X12_sum_22 w hz S rk dE hdE hrk (gX12_sum_4 S rk  n) ih (p0) M
    refine aj_aload_n (0) dX12_sum_13 rfl rfl ?_
    refine aj_bipush (v := (45 : Int32)) dX12_sum_14 (by decide) ?_
    refine rV_I (as := [.int ((45 : Int32))]) (c_X12_isSign w S _ _ _) mv_X12_isSign rfl zg_1675 (by omega) (Nat.le_of_ble_eq_true rfl) dX12_sum_16 (fun v2 => ?_)
    refine aj_if_eq (tgt := 48) dX12_sum_19 (by decide) (fun h => ?_) (fun h => ?_)
    · exact aj_vret dX12_sum_48 rfl rfl
    refine AJ.sub [0] rfl ?_
    exact t_X12_sum_22 w hz S rk dE hdE hrk (gX12_sum_4 S rk  n) ih (p0) M
def gX12_sum (S : List (Nat × Nat)) (rk : Nat → zM → Option zM) (p0 : Nat) (M : zM) : Option zM := zrc S (p0) 12 66 ((gX12_product S rk (p0) M).bind (fun M1 => gX12_sum_4 S rk zfu (p0) M1))
set_option maxHeartbeats 4000000 in
set_option maxRecDepth 100000 in
theorem c_X12_sumB (w : zWd) (hz : zSZ w) (S : List (Nat × Nat)) (rk : Nat → zM → Option zM) (dE : Nat) (hdE : 30 ≤ dE) (hrk : ∀ (p0 : Nat) (M : zM), CT (zfVM S) w dE mX12_expression [.ref (p0)] (S, M) (rk p0 M)) (p0 : Nat) (M : zM) : CT (zfVM S) w (dE + 3) mX12_sum [.ref (p0)] (S, M) (gX12_sum S rk p0 M) := by
  refine CT.of (by decide) (Nat.le_of_ble_eq_true rfl) ?_
  show AJ _ _ _ _ 0 [(0, .ref (p0))] [] _ _
  unfold gX12_sum
  refine aj_aload_n (0) dX12_sum_0 rfl rfl ?_
  refine rV_VM (as := []) (c_X12_productB w hz S rk dE hdE hrk _ _) mv_X12_product rfl zg_1667 (by omega) (Nat.le_of_ble_eq_true rfl) dX12_sum_1 (fun M1 => ?_)
  refine AJ.sub [0] rfl ?_
  exact t_X12_sum_4 w hz S rk dE hdE hrk zfu (p0) M1
def gX12_negationB (S : List (Nat × Nat)) (rk : Nat → zM → Option zM) (rn : Nat → zM → Option zM) (p0 : Nat) (M : zM) : Option zM := zrc S (p0) 12 66 ((gX12_isWord S (p0) ((12 : Int32)) M).bind (fun v1 => (if v1 = 0 then zrc S (p0) 12 66 ((gX12_sum S rk (p0) M).bind (fun M2 => zgI S M2 (p0) 12 66 24 (fun v3 => (if v3 = 0 then zgI S M2 (p0) 12 66 22 (fun v4 => (if v4 = (3 : Int32) then zgI S M2 (p0) 12 66 23 (fun v5 => (if v5 = (60 : Int32) then zgI S M2 (p0) 12 66 23 (fun v6 => zrc S (p0) 12 66 ((gX12_knot S (p0) M2).bind (fun M7 => zrc S (p0) 12 66 ((gX12_goOn S (p0) M7).bind (fun M8 => zrc S (p0) 12 66 ((gX12_sum S rk (p0) M8).bind (fun M9 => zrc S (p0) 12 66 ((gX12_puts S (p0) ((2 : Int32)) (v6) M9).bind (fun M10 => some M10))))))))) else zgI S M2 (p0) 12 66 23 (fun v11 => (if v11 = (62 : Int32) then zgI S M2 (p0) 12 66 23 (fun v12 => zrc S (p0) 12 66 ((gX12_knot S (p0) M2).bind (fun M13 => zrc S (p0) 12 66 ((gX12_goOn S (p0) M13).bind (fun M14 => zrc S (p0) 12 66 ((gX12_sum S rk (p0) M14).bind (fun M15 => zrc S (p0) 12 66 ((gX12_puts S (p0) ((2 : Int32)) (v12) M15).bind (fun M16 => some M16))))))))) else zgI S M2 (p0) 12 66 23 (fun v17 => (if v17 = (61 : Int32) then zgI S M2 (p0) 12 66 23 (fun v18 => zrc S (p0) 12 66 ((gX12_knot S (p0) M2).bind (fun M19 => zrc S (p0) 12 66 ((gX12_goOn S (p0) M19).bind (fun M20 => zrc S (p0) 12 66 ((gX12_sum S rk (p0) M20).bind (fun M21 => zrc S (p0) 12 66 ((gX12_puts S (p0) ((2 : Int32)) (v18) M21).bind (fun M22 => some M22))))))))) else zgI S M2 (p0) 12 66 23 (fun v23 => (if (256 : Int32) ≤ v23 then zgI S M2 (p0) 12 66 23 (fun v24 => zrc S (p0) 12 66 ((gX12_knot S (p0) M2).bind (fun M25 => zrc S (p0) 12 66 ((gX12_goOn S (p0) M25).bind (fun M26 => zrc S (p0) 12 66 ((gX12_sum S rk (p0) M26).bind (fun M27 => zrc S (p0) 12 66 ((gX12_puts S (p0) ((2 : Int32)) (v24) M27).bind (fun M28 => some M28))))))))) else some M2)))))))) else some M2)) else some M2)))) else zrc S (p0) 12 66 ((gX12_knot S (p0) M).bind (fun M29 => zrc S (p0) 12 66 ((gX12_goOn S (p0) M29).bind (fun M30 => zrc S (p0) 12 66 ((rn (p0) M30).bind (fun M31 => zrc S (p0) 12 66 ((gX12_puts S (p0) ((2 : Int32)) ((260 : Int32)) M31).bind (fun M32 => some M32)))))))))))
set_option maxHeartbeats 4000000 in
set_option maxRecDepth 100000 in
theorem c_X12_negationB (w : zWd) (hz : zSZ w) (S : List (Nat × Nat)) (rk : Nat → zM → Option zM) (rn : Nat → zM → Option zM) (dE : Nat) (hdE : 30 ≤ dE) (hrk : ∀ (p0 : Nat) (M : zM), CT (zfVM S) w dE mX12_expression [.ref (p0)] (S, M) (rk p0 M)) (n9 : Nat) (hrn : ∀ (p0 : Nat) (M : zM), CT (zfVM S) w (dE + 4 + n9) mX12_negation [.ref (p0)] (S, M) (rn p0 M)) (p0 : Nat) (M : zM) : CT (zfVM S) w (dE + 4 + n9 + 1) mX12_negation [.ref (p0)] (S, M) (gX12_negationB S rk rn p0 M) := by
  refine CT.of (by decide) (Nat.le_of_ble_eq_true rfl) ?_
  show AJ _ _ _ _ 0 [(0, .ref (p0))] [] _ _
  unfold gX12_negationB
  refine aj_aload_n (0) dX12_negation_0 rfl rfl ?_
  refine aj_bipush (v := (12 : Int32)) dX12_negation_1 (by decide) ?_
  refine rV_I (as := [.int ((12 : Int32))]) (c_X12_isWord w S _ _ _) mv_X12_isWord rfl zg_1651 (by omega) (Nat.le_of_ble_eq_true rfl) dX12_negation_3 (fun v1 => ?_)
  refine aj_if_eq (tgt := 30) dX12_negation_6 (by decide) (fun h => ?_) (fun h => ?_)
  · refine aj_aload_n (0) dX12_negation_30 rfl rfl ?_
    refine rV_VM (as := []) (c_X12_sumB w hz S rk dE hdE hrk _ _) mv_X12_sum rfl zg_1663 (by omega) (Nat.le_of_ble_eq_true rfl) dX12_negation_31 (fun M2 => ?_)
    refine aj_aload_n (0) dX12_negation_34 rfl rfl ?_
    refine r_getI (TX := TX12) zc12 (by decide) rfl (Or.inl zg_1374) dX12_negation_35 (fun v3 => ?_)
    refine aj_if_ne (tgt := 86) dX12_negation_38 (by decide) (fun h => ?_) (fun h => ?_)
    · exact aj_vret dX12_negation_86 rfl rfl
    refine aj_aload_n (0) dX12_negation_41 rfl rfl ?_
    refine r_getI (TX := TX12) zc12 (by decide) rfl (Or.inl zg_1372) dX12_negation_42 (fun v4 => ?_)
    refine aj_iconst (v := (3 : Int32)) dX12_negation_45 (by decide) ?_
    refine aj_icmp_ne (tgt := 86) dX12_negation_46 (by decide) (fun h => ?_) (fun h => ?_)
    · exact aj_vret dX12_negation_86 rfl rfl
    refine aj_aload_n (0) dX12_negation_49 rfl rfl ?_
    refine r_getI (TX := TX12) zc12 (by decide) rfl (Or.inl zg_1373) dX12_negation_50 (fun v5 => ?_)
    refine aj_bipush (v := (60 : Int32)) dX12_negation_53 (by decide) ?_
    refine aj_icmp_eq (tgt := 87) dX12_negation_55 (by decide) (fun h => ?_) (fun h => ?_)
    · refine aj_aload_n (0) dX12_negation_87 rfl rfl ?_
      refine r_getI (TX := TX12) zc12 (by decide) rfl (Or.inl zg_1373) dX12_negation_88 (fun v6 => ?_)
      refine aj_istore_n (ls2 := [(1, .int (v6)), (0, .ref (p0))]) dX12_negation_91 rfl (Nat.le_of_ble_eq_true rfl) rfl ?_
      refine aj_aload_n (1) dX12_negation_92 rfl rfl ?_
      refine rV_VM (as := []) (c_X12_knot w S _ _) mv_X12_knot rfl zg_1655 (by omega) (Nat.le_of_ble_eq_true rfl) dX12_negation_93 (fun M7 => ?_)
      refine aj_aload_n (1) dX12_negation_96 rfl rfl ?_
      refine rV_VM (as := []) (c_X12_goOn w hz S _ _) mv_X12_goOn rfl zg_1627 (by omega) (Nat.le_of_ble_eq_true rfl) dX12_negation_97 (fun M8 => ?_)
      refine aj_aload_n (1) dX12_negation_100 rfl rfl ?_
      refine rV_VM (as := []) (c_X12_sumB w hz S rk dE hdE hrk _ _) mv_X12_sum rfl zg_1663 (by omega) (Nat.le_of_ble_eq_true rfl) dX12_negation_101 (fun M9 => ?_)
      refine aj_aload_n (1) dX12_negation_104 rfl rfl ?_
      refine aj_iconst (v := (2 : Int32)) dX12_negation_105 (by decide) ?_
      refine aj_iload_n (0) dX12_negation_106 rfl rfl ?_
      refine rV_VM (as := [.int ((2 : Int32)), .int (v6)]) (c_X12_puts w S _ _ _ _) mv_X12_puts rfl zg_1659 (by omega) (Nat.le_of_ble_eq_true rfl) dX12_negation_107 (fun M10 => ?_)
      exact aj_vret dX12_negation_110 rfl rfl
    refine aj_aload_n (0) dX12_negation_58 rfl rfl ?_
    refine r_getI (TX := TX12) zc12 (by decide) rfl (Or.inl zg_1373) dX12_negation_59 (fun v11 => ?_)
    refine aj_bipush (v := (62 : Int32)) dX12_negation_62 (by decide) ?_
    refine aj_icmp_eq (tgt := 87) dX12_negation_64 (by decide) (fun h => ?_) (fun h => ?_)
    · refine aj_aload_n (0) dX12_negation_87 rfl rfl ?_
      refine r_getI (TX := TX12) zc12 (by decide) rfl (Or.inl zg_1373) dX12_negation_88 (fun v12 => ?_)
      refine aj_istore_n (ls2 := [(1, .int (v12)), (0, .ref (p0))]) dX12_negation_91 rfl (Nat.le_of_ble_eq_true rfl) rfl ?_
      refine aj_aload_n (1) dX12_negation_92 rfl rfl ?_
      refine rV_VM (as := []) (c_X12_knot w S _ _) mv_X12_knot rfl zg_1655 (by omega) (Nat.le_of_ble_eq_true rfl) dX12_negation_93 (fun M13 => ?_)
      refine aj_aload_n (1) dX12_negation_96 rfl rfl ?_
      refine rV_VM (as := []) (c_X12_goOn w hz S _ _) mv_X12_goOn rfl zg_1627 (by omega) (Nat.le_of_ble_eq_true rfl) dX12_negation_97 (fun M14 => ?_)
      refine aj_aload_n (1) dX12_negation_100 rfl rfl ?_
      refine rV_VM (as := []) (c_X12_sumB w hz S rk dE hdE hrk _ _) mv_X12_sum rfl zg_1663 (by omega) (Nat.le_of_ble_eq_true rfl) dX12_negation_101 (fun M15 => ?_)
      refine aj_aload_n (1) dX12_negation_104 rfl rfl ?_
      refine aj_iconst (v := (2 : Int32)) dX12_negation_105 (by decide) ?_
      refine aj_iload_n (0) dX12_negation_106 rfl rfl ?_
      refine rV_VM (as := [.int ((2 : Int32)), .int (v12)]) (c_X12_puts w S _ _ _ _) mv_X12_puts rfl zg_1659 (by omega) (Nat.le_of_ble_eq_true rfl) dX12_negation_107 (fun M16 => ?_)
      exact aj_vret dX12_negation_110 rfl rfl
    refine aj_aload_n (0) dX12_negation_67 rfl rfl ?_
    refine r_getI (TX := TX12) zc12 (by decide) rfl (Or.inl zg_1373) dX12_negation_68 (fun v17 => ?_)
    refine aj_bipush (v := (61 : Int32)) dX12_negation_71 (by decide) ?_
    refine aj_icmp_eq (tgt := 87) dX12_negation_73 (by decide) (fun h => ?_) (fun h => ?_)
    · refine aj_aload_n (0) dX12_negation_87 rfl rfl ?_
      refine r_getI (TX := TX12) zc12 (by decide) rfl (Or.inl zg_1373) dX12_negation_88 (fun v18 => ?_)
      refine aj_istore_n (ls2 := [(1, .int (v18)), (0, .ref (p0))]) dX12_negation_91 rfl (Nat.le_of_ble_eq_true rfl) rfl ?_
      refine aj_aload_n (1) dX12_negation_92 rfl rfl ?_
      refine rV_VM (as := []) (c_X12_knot w S _ _) mv_X12_knot rfl zg_1655 (by omega) (Nat.le_of_ble_eq_true rfl) dX12_negation_93 (fun M19 => ?_)
      refine aj_aload_n (1) dX12_negation_96 rfl rfl ?_
      refine rV_VM (as := []) (c_X12_goOn w hz S _ _) mv_X12_goOn rfl zg_1627 (by omega) (Nat.le_of_ble_eq_true rfl) dX12_negation_97 (fun M20 => ?_)
      refine aj_aload_n (1) dX12_negation_100 rfl rfl ?_
      refine rV_VM (as := []) (c_X12_sumB w hz S rk dE hdE hrk _ _) mv_X12_sum rfl zg_1663 (by omega) (Nat.le_of_ble_eq_true rfl) dX12_negation_101 (fun M21 => ?_)
      refine aj_aload_n (1) dX12_negation_104 rfl rfl ?_
      refine aj_iconst (v := (2 : Int32)) dX12_negation_105 (by decide) ?_
      refine aj_iload_n (0) dX12_negation_106 rfl rfl ?_
      refine rV_VM (as := [.int ((2 : Int32)), .int (v18)]) (c_X12_puts w S _ _ _ _) mv_X12_puts rfl zg_1659 (by omega) (Nat.le_of_ble_eq_true rfl) dX12_negation_107 (fun M22 => ?_)
      exact aj_vret dX12_negation_110 rfl rfl
    refine aj_aload_n (0) dX12_negation_76 rfl rfl ?_
    refine r_getI (TX := TX12) zc12 (by decide) rfl (Or.inl zg_1373) dX12_negation_77 (fun v23 => ?_)
    refine aj_sipush (v := (256 : Int32)) dX12_negation_80 (by decide) ?_
    refine aj_icmp_ge (tgt := 87) dX12_negation_83 (by decide) (fun h => ?_) (fun h => ?_)
    · refine aj_aload_n (0) dX12_negation_87 rfl rfl ?_
      refine r_getI (TX := TX12) zc12 (by decide) rfl (Or.inl zg_1373) dX12_negation_88 (fun v24 => ?_)
      refine aj_istore_n (ls2 := [(1, .int (v24)), (0, .ref (p0))]) dX12_negation_91 rfl (Nat.le_of_ble_eq_true rfl) rfl ?_
      refine aj_aload_n (1) dX12_negation_92 rfl rfl ?_
      refine rV_VM (as := []) (c_X12_knot w S _ _) mv_X12_knot rfl zg_1655 (by omega) (Nat.le_of_ble_eq_true rfl) dX12_negation_93 (fun M25 => ?_)
      refine aj_aload_n (1) dX12_negation_96 rfl rfl ?_
      refine rV_VM (as := []) (c_X12_goOn w hz S _ _) mv_X12_goOn rfl zg_1627 (by omega) (Nat.le_of_ble_eq_true rfl) dX12_negation_97 (fun M26 => ?_)
      refine aj_aload_n (1) dX12_negation_100 rfl rfl ?_
      refine rV_VM (as := []) (c_X12_sumB w hz S rk dE hdE hrk _ _) mv_X12_sum rfl zg_1663 (by omega) (Nat.le_of_ble_eq_true rfl) dX12_negation_101 (fun M27 => ?_)
      refine aj_aload_n (1) dX12_negation_104 rfl rfl ?_
      refine aj_iconst (v := (2 : Int32)) dX12_negation_105 (by decide) ?_
      refine aj_iload_n (0) dX12_negation_106 rfl rfl ?_
      refine rV_VM (as := [.int ((2 : Int32)), .int (v24)]) (c_X12_puts w S _ _ _ _) mv_X12_puts rfl zg_1659 (by omega) (Nat.le_of_ble_eq_true rfl) dX12_negation_107 (fun M28 => ?_)
      exact aj_vret dX12_negation_110 rfl rfl
    exact aj_vret dX12_negation_86 rfl rfl
  refine aj_aload_n (0) dX12_negation_9 rfl rfl ?_
  refine rV_VM (as := []) (c_X12_knot w S _ _) mv_X12_knot rfl zg_1655 (by omega) (Nat.le_of_ble_eq_true rfl) dX12_negation_10 (fun M29 => ?_)
  refine aj_aload_n (0) dX12_negation_13 rfl rfl ?_
  refine rV_VM (as := []) (c_X12_goOn w hz S _ _) mv_X12_goOn rfl zg_1627 (by omega) (Nat.le_of_ble_eq_true rfl) dX12_negation_14 (fun M30 => ?_)
  refine aj_aload_n (0) dX12_negation_17 rfl rfl ?_
  refine rV_VM (as := []) (hrn _ _) mv_X12_negation rfl zg_1647 (by omega) (Nat.le_of_ble_eq_true rfl) dX12_negation_18 (fun M31 => ?_)
  refine aj_aload_n (0) dX12_negation_21 rfl rfl ?_
  refine aj_iconst (v := (2 : Int32)) dX12_negation_22 (by decide) ?_
  refine aj_sipush (v := (260 : Int32)) dX12_negation_23 (by decide) ?_
  refine rV_VM (as := [.int ((2 : Int32)), .int ((260 : Int32))]) (c_X12_puts w S _ _ _ _) mv_X12_puts rfl zg_1659 (by omega) (Nat.le_of_ble_eq_true rfl) dX12_negation_26 (fun M32 => ?_)
  exact aj_vret dX12_negation_29 rfl rfl
def gX12_negation (S : List (Nat × Nat)) (rk : Nat → zM → Option zM) : Nat → Nat → zM → Option zM
  | 0 => fun _ _ => none
  | n + 1 => fun p0 M => gX12_negationB S rk (gX12_negation S rk n) p0 M
theorem c_X12_negation (w : zWd) (hz : zSZ w) (S : List (Nat × Nat)) (rk : Nat → zM → Option zM) (dE : Nat) (hdE : 30 ≤ dE) (hrk : ∀ (p0 : Nat) (M : zM), CT (zfVM S) w dE mX12_expression [.ref (p0)] (S, M) (rk p0 M)) (n : Nat) : ∀ (p0 : Nat) (M : zM), CT (zfVM S) w (dE + 4 + n) mX12_negation [.ref (p0)] (S, M) (gX12_negation S rk n p0 M) := by
  induction n with
  | zero => intro p0 M r h; cases h
  | succ n ih => intro p0 M; exact c_X12_negationB w hz S rk _ dE hdE hrk n ih p0 M
def gX12_conjunction_4 (S : List (Nat × Nat)) (rk : Nat → zM → Option zM) : Nat → Nat → zM → Option zM
  | 0 => fun _ _ => none
  | n + 1 => fun p0 M => zrc S (p0) 12 66 ((gX12_isWord S (p0) ((11 : Int32)) M).bind (fun v1 => (if v1 = 0 then some M else zrc S (p0) 12 66 ((gX12_knot S (p0) M).bind (fun M2 => zrc S (p0) 12 66 ((gX12_goOn S (p0) M2).bind (fun M3 => zrc S (p0) 12 66 ((gX12_negation S rk 70 (p0) M3).bind (fun M4 => zrc S (p0) 12 66 ((gX12_puts S (p0) ((2 : Int32)) ((261 : Int32)) M4).bind (fun M5 => (gX12_conjunction_4 S rk  n) (p0) M5)))))))))))
set_option maxHeartbeats 4000000 in
set_option maxRecDepth 100000 in
theorem t_X12_conjunction_4 (w : zWd) (hz : zSZ w) (S : List (Nat × Nat)) (rk : Nat → zM → Option zM) (dE : Nat) (hdE : 30 ≤ dE) (hrk : ∀ (p0 : Nat) (M : zM), CT (zfVM S) w dE mX12_expression [.ref (p0)] (S, M) (rk p0 M)) (fu : Nat) : ∀ (p0 : Nat) (M : zM), AJ (zfVM S) w (dE + 75) mX12_conjunction 4 [(0, .ref (p0))] [] (S, M) (gX12_conjunction_4 S rk fu p0 M) := by
  induction fu with
  | zero => intro p0 M; exact AJ.none
  | succ n ih =>
    intro p0 M
    unfold gX12_conjunction_4
    refine aj_aload_n (0) dX12_conjunction_4 rfl rfl ?_
    refine aj_bipush (v := (11 : Int32)) dX12_conjunction_5 (by decide) ?_
    refine rV_I (as := [.int ((11 : Int32))]) (c_X12_isWord w S _ _ _) mv_X12_isWord rfl zg_1651 (by omega) (Nat.le_of_ble_eq_true rfl) dX12_conjunction_7 (fun v1 => ?_)
    refine aj_if_eq (tgt := 36) dX12_conjunction_10 (by decide) (fun h => ?_) (fun h => ?_)
    · exact aj_vret dX12_conjunction_36 rfl rfl
    refine aj_aload_n (0) dX12_conjunction_13 rfl rfl ?_
    refine rV_VM (as := []) (c_X12_knot w S _ _) mv_X12_knot rfl zg_1655 (by omega) (Nat.le_of_ble_eq_true rfl) dX12_conjunction_14 (fun M2 => ?_)
    refine aj_aload_n (0) dX12_conjunction_17 rfl rfl ?_
    refine rV_VM (as := []) (c_X12_goOn w hz S _ _) mv_X12_goOn rfl zg_1627 (by omega) (Nat.le_of_ble_eq_true rfl) dX12_conjunction_18 (fun M3 => ?_)
    refine aj_aload_n (0) dX12_conjunction_21 rfl rfl ?_
    refine rV_VM (as := []) (c_X12_negation w hz S rk dE hdE hrk 70 _ _) mv_X12_negation rfl zg_1647 (by omega) (Nat.le_of_ble_eq_true rfl) dX12_conjunction_22 (fun M4 => ?_)
    refine aj_aload_n (0) dX12_conjunction_25 rfl rfl ?_
    refine aj_iconst (v := (2 : Int32)) dX12_conjunction_26 (by decide) ?_
    refine aj_sipush (v := (261 : Int32)) dX12_conjunction_27 (by decide) ?_
    refine rV_VM (as := [.int ((2 : Int32)), .int ((261 : Int32))]) (c_X12_puts w S _ _ _ _) mv_X12_puts rfl zg_1659 (by omega) (Nat.le_of_ble_eq_true rfl) dX12_conjunction_30 (fun M5 => ?_)
    refine aj_goto (tgt := 4) dX12_conjunction_33 (by decide) ?_
    refine AJ.sub [0] rfl ?_
    exact ih (p0) M5
def gX12_conjunction (S : List (Nat × Nat)) (rk : Nat → zM → Option zM) (p0 : Nat) (M : zM) : Option zM := zrc S (p0) 12 66 ((gX12_negation S rk 70 (p0) M).bind (fun M1 => gX12_conjunction_4 S rk zfu (p0) M1))
set_option maxHeartbeats 4000000 in
set_option maxRecDepth 100000 in
theorem c_X12_conjunctionB (w : zWd) (hz : zSZ w) (S : List (Nat × Nat)) (rk : Nat → zM → Option zM) (dE : Nat) (hdE : 30 ≤ dE) (hrk : ∀ (p0 : Nat) (M : zM), CT (zfVM S) w dE mX12_expression [.ref (p0)] (S, M) (rk p0 M)) (p0 : Nat) (M : zM) : CT (zfVM S) w (dE + 75) mX12_conjunction [.ref (p0)] (S, M) (gX12_conjunction S rk p0 M) := by
  refine CT.of (by decide) (Nat.le_of_ble_eq_true rfl) ?_
  show AJ _ _ _ _ 0 [(0, .ref (p0))] [] _ _
  unfold gX12_conjunction
  refine aj_aload_n (0) dX12_conjunction_0 rfl rfl ?_
  refine rV_VM (as := []) (c_X12_negation w hz S rk dE hdE hrk 70 _ _) mv_X12_negation rfl zg_1647 (by omega) (Nat.le_of_ble_eq_true rfl) dX12_conjunction_1 (fun M1 => ?_)
  refine AJ.sub [0] rfl ?_
  exact t_X12_conjunction_4 w hz S rk dE hdE hrk zfu (p0) M1
def gX12_expression_4 (S : List (Nat × Nat)) (rk : Nat → zM → Option zM) : Nat → Nat → zM → Option zM
  | 0 => fun _ _ => none
  | n + 1 => fun p0 M => zrc S (p0) 12 66 ((gX12_isWord S (p0) ((10 : Int32)) M).bind (fun v1 => (if v1 = 0 then some M else zrc S (p0) 12 66 ((gX12_knot S (p0) M).bind (fun M2 => zrc S (p0) 12 66 ((gX12_goOn S (p0) M2).bind (fun M3 => zrc S (p0) 12 66 ((gX12_conjunction S rk (p0) M3).bind (fun M4 => zrc S (p0) 12 66 ((gX12_puts S (p0) ((2 : Int32)) ((262 : Int32)) M4).bind (fun M5 => (gX12_expression_4 S rk  n) (p0) M5)))))))))))
set_option maxHeartbeats 4000000 in
set_option maxRecDepth 100000 in
theorem t_X12_expression_4 (w : zWd) (hz : zSZ w) (S : List (Nat × Nat)) (rk : Nat → zM → Option zM) (dE : Nat) (hdE : 30 ≤ dE) (hrk : ∀ (p0 : Nat) (M : zM), CT (zfVM S) w dE mX12_expression [.ref (p0)] (S, M) (rk p0 M)) (fu : Nat) : ∀ (p0 : Nat) (M : zM), AJ (zfVM S) w (dE + 76) mX12_expression 4 [(0, .ref (p0))] [] (S, M) (gX12_expression_4 S rk fu p0 M) := by
  induction fu with
  | zero => intro p0 M; exact AJ.none
  | succ n ih =>
    intro p0 M
    unfold gX12_expression_4
    refine aj_aload_n (0) dX12_expression_4 rfl rfl ?_
    refine aj_bipush (v := (10 : Int32)) dX12_expression_5 (by decide) ?_
    refine rV_I (as := [.int ((10 : Int32))]) (c_X12_isWord w S _ _ _) mv_X12_isWord rfl zg_1651 (by omega) (Nat.le_of_ble_eq_true rfl) dX12_expression_7 (fun v1 => ?_)
    refine aj_if_eq (tgt := 36) dX12_expression_10 (by decide) (fun h => ?_) (fun h => ?_)
    · exact aj_vret dX12_expression_36 rfl rfl
    refine aj_aload_n (0) dX12_expression_13 rfl rfl ?_
    refine rV_VM (as := []) (c_X12_knot w S _ _) mv_X12_knot rfl zg_1655 (by omega) (Nat.le_of_ble_eq_true rfl) dX12_expression_14 (fun M2 => ?_)
    refine aj_aload_n (0) dX12_expression_17 rfl rfl ?_
    refine rV_VM (as := []) (c_X12_goOn w hz S _ _) mv_X12_goOn rfl zg_1627 (by omega) (Nat.le_of_ble_eq_true rfl) dX12_expression_18 (fun M3 => ?_)
    refine aj_aload_n (0) dX12_expression_21 rfl rfl ?_
    refine rV_VM (as := []) (c_X12_conjunctionB w hz S rk dE hdE hrk _ _) mv_X12_conjunction rfl zg_1643 (by omega) (Nat.le_of_ble_eq_true rfl) dX12_expression_22 (fun M4 => ?_)
    refine aj_aload_n (0) dX12_expression_25 rfl rfl ?_
    refine aj_iconst (v := (2 : Int32)) dX12_expression_26 (by decide) ?_
    refine aj_sipush (v := (262 : Int32)) dX12_expression_27 (by decide) ?_
    refine rV_VM (as := [.int ((2 : Int32)), .int ((262 : Int32))]) (c_X12_puts w S _ _ _ _) mv_X12_puts rfl zg_1659 (by omega) (Nat.le_of_ble_eq_true rfl) dX12_expression_30 (fun M5 => ?_)
    refine aj_goto (tgt := 4) dX12_expression_33 (by decide) ?_
    refine AJ.sub [0] rfl ?_
    exact ih (p0) M5
def gX12_expressionB (S : List (Nat × Nat)) (rk : Nat → zM → Option zM) (p0 : Nat) (M : zM) : Option zM := zrc S (p0) 12 66 ((gX12_conjunction S rk (p0) M).bind (fun M1 => gX12_expression_4 S rk zfu (p0) M1))
set_option maxHeartbeats 4000000 in
set_option maxRecDepth 100000 in
theorem c_X12_expressionB (w : zWd) (hz : zSZ w) (S : List (Nat × Nat)) (rk : Nat → zM → Option zM) (dE : Nat) (hdE : 30 ≤ dE) (hrk : ∀ (p0 : Nat) (M : zM), CT (zfVM S) w dE mX12_expression [.ref (p0)] (S, M) (rk p0 M)) (p0 : Nat) (M : zM) : CT (zfVM S) w (dE + 76) mX12_expression [.ref (p0)] (S, M) (gX12_expressionB S rk p0 M) := by
  refine CT.of (by decide) (Nat.le_of_ble_eq_true rfl) ?_
  show AJ _ _ _ _ 0 [(0, .ref (p0))] [] _ _
  unfold gX12_expressionB
  refine aj_aload_n (0) dX12_expression_0 rfl rfl ?_
  refine rV_VM (as := []) (c_X12_conjunctionB w hz S rk dE hdE hrk _ _) mv_X12_conjunction rfl zg_1643 (by omega) (Nat.le_of_ble_eq_true rfl) dX12_expression_1 (fun M1 => ?_)
  refine AJ.sub [0] rfl ?_
  exact t_X12_expression_4 w hz S rk dE hdE hrk zfu (p0) M1
def gX12_expression (S : List (Nat × Nat)) : Nat → Nat → zM → Option zM
  | 0 => fun _ _ => none
  | n + 1 => fun p0 M => gX12_expressionB S (gX12_expression S n) p0 M
theorem c_X12_expression (w : zWd) (hz : zSZ w) (S : List (Nat × Nat)) (n : Nat) : ∀ (p0 : Nat) (M : zM), CT (zfVM S) w (30 + 76 * n) mX12_expression [.ref (p0)] (S, M) (gX12_expression S n p0 M) := by
  induction n with
  | zero => intro p0 M r h; cases h
  | succ n ih => intro p0 M; exact c_X12_expressionB w hz S _ (30 + 76 * n) (by omega) ih p0 M
def gX12_lawLine_65 (S : List (Nat × Nat)) (p0 : Nat) (x1 : Int32) (M : zM) : Option zM := zgI S M (p0) 12 66 24 (fun v1 => (if v1 = 0 then zgI S M (p0) 12 66 17 (fun v2 => zpI S M (p0) 12 66 17 ((v2 ||| ((1 : Int32) <<< (((16 : Int32) + x1) &&& 31)))) (fun M3 => zrc S (p0) 12 66 ((gX12_token S (p0) M3).bind (fun M4 => zgR S M4 (p0) 12 66 13 (fun r5 => zrc S (p0) 12 66 ((gX12_fresher S (p0) ((6 : Int32)) M4).bind (fun v6 => zbI S M4 (r5) (((3 : Int32) + x1)) (v6) (fun M7 => zrc S (p0) 12 66 ((gX12_expression S 10 (p0) M7).bind (fun M8 => zgR S M8 (p0) 12 66 14 (fun r9 => zrc S (p0) 12 66 ((gX12_fresher S (p0) ((6 : Int32)) M8).bind (fun v10 => zbI S M8 (r9) (((3 : Int32) + x1)) (v10) (fun M11 => some M11)))))))))))))) else some M))
set_option maxHeartbeats 4000000 in
set_option maxRecDepth 100000 in
theorem t_X12_lawLine_65 (w : zWd) (hz : zSZ w) (S : List (Nat × Nat)) (p0 : Nat) (x1 : Int32) (M : zM) : AJ (zfVM S) w 791 mX12_lawLine 65 [(0, .ref (p0)), (1, .int (x1))] [] (S, M) (gX12_lawLine_65 S p0 x1 M) := by
  unfold gX12_lawLine_65
  refine aj_aload_n (0) dX12_lawLine_65 rfl rfl ?_
  refine r_getI (TX := TX12) zc12 (by decide) rfl (Or.inl zg_1374) dX12_lawLine_66 (fun v1 => ?_)
  refine aj_if_eq (tgt := 73) dX12_lawLine_69 (by decide) (fun h => ?_) (fun h => ?_)
  · refine aj_aload_n (0) dX12_lawLine_73 rfl rfl ?_
    refine aj_dup dX12_lawLine_74 rfl ?_
    refine r_getI (TX := TX12) zc12 (by decide) rfl (Or.inl zg_1367) dX12_lawLine_75 (fun v2 => ?_)
    refine aj_iconst (v := (1 : Int32)) dX12_lawLine_78 (by decide) ?_
    refine aj_bipush (v := (16 : Int32)) dX12_lawLine_79 (by decide) ?_
    refine aj_iload_n (1) dX12_lawLine_81 rfl rfl ?_
    refine aj_iadd dX12_lawLine_82 ?_
    refine aj_ishl dX12_lawLine_83 ?_
    refine aj_ior dX12_lawLine_84 ?_
    refine r_putI (TX := TX12) zc12 (by decide) rfl rfl rfl rfl (Or.inl zg_1367) dX12_lawLine_85 (fun M3 => ?_)
    refine aj_aload_n (0) dX12_lawLine_88 rfl rfl ?_
    refine rV_VM (as := []) (c_X12_token w hz S _ _) mv_X12_token rfl zg_1566 (by decide) (Nat.le_of_ble_eq_true rfl) dX12_lawLine_89 (fun M4 => ?_)
    refine aj_aload_n (0) dX12_lawLine_92 rfl rfl ?_
    refine aj_getR (TX := TX12) zc12 (by decide) rfl (Or.inl zg_1363) dX12_lawLine_93 (fun r5 => ?_)
    refine aj_iconst (v := (3 : Int32)) dX12_lawLine_96 (by decide) ?_
    refine aj_iload_n (1) dX12_lawLine_97 rfl rfl ?_
    refine aj_iadd dX12_lawLine_98 ?_
    refine aj_aload_n (0) dX12_lawLine_99 rfl rfl ?_
    refine aj_bipush (v := (6 : Int32)) dX12_lawLine_100 (by decide) ?_
    refine rV_I (as := [.int ((6 : Int32))]) (c_X12_fresher w S _ _ _) mv_X12_fresher rfl zg_1608 (by decide) (Nat.le_of_ble_eq_true rfl) dX12_lawLine_102 (fun v6 => ?_)
    refine r_iast dX12_lawLine_105 (fun M7 => ?_)
    refine aj_aload_n (0) dX12_lawLine_106 rfl rfl ?_
    refine rV_VM (as := []) (c_X12_expression w hz S 10 _ _) mv_X12_expression rfl zg_1639 (by decide) (Nat.le_of_ble_eq_true rfl) dX12_lawLine_107 (fun M8 => ?_)
    refine aj_aload_n (0) dX12_lawLine_110 rfl rfl ?_
    refine aj_getR (TX := TX12) zc12 (by decide) rfl (Or.inl zg_1364) dX12_lawLine_111 (fun r9 => ?_)
    refine aj_iconst (v := (3 : Int32)) dX12_lawLine_114 (by decide) ?_
    refine aj_iload_n (1) dX12_lawLine_115 rfl rfl ?_
    refine aj_iadd dX12_lawLine_116 ?_
    refine aj_aload_n (0) dX12_lawLine_117 rfl rfl ?_
    refine aj_bipush (v := (6 : Int32)) dX12_lawLine_118 (by decide) ?_
    refine rV_I (as := [.int ((6 : Int32))]) (c_X12_fresher w S _ _ _) mv_X12_fresher rfl zg_1608 (by decide) (Nat.le_of_ble_eq_true rfl) dX12_lawLine_120 (fun v10 => ?_)
    refine r_iast dX12_lawLine_123 (fun M11 => ?_)
    exact aj_vret dX12_lawLine_124 rfl rfl
  exact aj_vret dX12_lawLine_72 rfl rfl
def gX12_lawLine_30 (S : List (Nat × Nat)) (p0 : Nat) (M : zM) : Option zM := zgI S M (p0) 12 66 23 (fun v1 => zgI S M (p0) 12 66 24 (fun v2 => (if v2 = 0 then zgI S M (p0) 12 66 17 (fun v3 => (if ((v3 >>> (((16 : Int32) + (v1 - (7 : Int32))) &&& 31)) &&& (1 : Int32)) = (1 : Int32) then zrc S (p0) 12 66 ((gX12_wrong S (p0) ((3 : Int32)) M).bind (fun M4 => gX12_lawLine_65 S (p0) ((v1 - (7 : Int32))) M4)) else gX12_lawLine_65 S (p0) ((v1 - (7 : Int32))) M)) else gX12_lawLine_65 S (p0) ((v1 - (7 : Int32))) M)))
set_option maxHeartbeats 4000000 in
set_option maxRecDepth 100000 in
theorem t_X12_lawLine_30 (w : zWd) (hz : zSZ w) (S : List (Nat × Nat)) (p0 : Nat) (M : zM) : AJ (zfVM S) w 791 mX12_lawLine 30 [(0, .ref (p0))] [] (S, M) (gX12_lawLine_30 S p0 M) := by
  unfold gX12_lawLine_30
  refine aj_aload_n (0) dX12_lawLine_30 rfl rfl ?_
  refine r_getI (TX := TX12) zc12 (by decide) rfl (Or.inl zg_1373) dX12_lawLine_31 (fun v1 => ?_)
  refine aj_bipush (v := (7 : Int32)) dX12_lawLine_34 (by decide) ?_
  refine aj_isub dX12_lawLine_36 ?_
  refine aj_istore_n (ls2 := [(1, .int ((v1 - (7 : Int32)))), (0, .ref (p0))]) dX12_lawLine_37 rfl (Nat.le_of_ble_eq_true rfl) rfl ?_
  refine aj_aload_n (1) dX12_lawLine_38 rfl rfl ?_
  refine r_getI (TX := TX12) zc12 (by decide) rfl (Or.inl zg_1374) dX12_lawLine_39 (fun v2 => ?_)
  refine aj_if_ne (tgt := 65) dX12_lawLine_42 (by decide) (fun h => ?_) (fun h => ?_)
  · refine AJ.sub [1, 0] rfl ?_
    exact t_X12_lawLine_65 w hz S (p0) ((v1 - (7 : Int32))) M
  refine aj_aload_n (1) dX12_lawLine_45 rfl rfl ?_
  refine r_getI (TX := TX12) zc12 (by decide) rfl (Or.inl zg_1367) dX12_lawLine_46 (fun v3 => ?_)
  refine aj_bipush (v := (16 : Int32)) dX12_lawLine_49 (by decide) ?_
  refine aj_iload_n (0) dX12_lawLine_51 rfl rfl ?_
  refine aj_iadd dX12_lawLine_52 ?_
  refine aj_ishr dX12_lawLine_53 ?_
  refine aj_iconst (v := (1 : Int32)) dX12_lawLine_54 (by decide) ?_
  refine aj_iand dX12_lawLine_55 ?_
  refine aj_iconst (v := (1 : Int32)) dX12_lawLine_56 (by decide) ?_
  refine aj_icmp_ne (tgt := 65) dX12_lawLine_57 (by decide) (fun h => ?_) (fun h => ?_)
  · refine AJ.sub [1, 0] rfl ?_
    exact t_X12_lawLine_65 w hz S (p0) ((v1 - (7 : Int32))) M
  refine aj_aload_n (1) dX12_lawLine_60 rfl rfl ?_
  refine aj_iconst (v := (3 : Int32)) dX12_lawLine_61 (by decide) ?_
  refine rV_VM (as := [.int ((3 : Int32))]) (c_X12_wrong w S _ _ _) mv_X12_wrong rfl zg_1600 (by decide) (Nat.le_of_ble_eq_true rfl) dX12_lawLine_62 (fun M4 => ?_)
  refine AJ.sub [1, 0] rfl ?_
  exact t_X12_lawLine_65 w hz S (p0) ((v1 - (7 : Int32))) M4
def gX12_lawLine (S : List (Nat × Nat)) (p0 : Nat) (M : zM) : Option zM := zgI S M (p0) 12 66 22 (fun v1 => (if v1 = 0 then zgI S M (p0) 12 66 23 (fun v3 => (if v3 < (7 : Int32) then zrc S (p0) 12 66 ((gX12_wrong S (p0) ((1 : Int32)) M).bind (fun M4 => gX12_lawLine_30 S (p0) M4)) else zgI S M (p0) 12 66 23 (fun v5 => (if v5 ≤ (9 : Int32) then gX12_lawLine_30 S (p0) M else zrc S (p0) 12 66 ((gX12_wrong S (p0) ((1 : Int32)) M).bind (fun M6 => gX12_lawLine_30 S (p0) M6)))))) else zrc S (p0) 12 66 ((gX12_wrong S (p0) ((1 : Int32)) M).bind (fun M2 => gX12_lawLine_30 S (p0) M2))))
set_option maxHeartbeats 4000000 in
set_option maxRecDepth 100000 in
theorem c_X12_lawLine (w : zWd) (hz : zSZ w) (S : List (Nat × Nat)) (p0 : Nat) (M : zM) : CT (zfVM S) w 791 mX12_lawLine [.ref (p0)] (S, M) (gX12_lawLine S p0 M) := by
  refine CT.of (by decide) (Nat.le_of_ble_eq_true rfl) ?_
  show AJ _ _ _ _ 0 [(0, .ref (p0))] [] _ _
  unfold gX12_lawLine
  refine aj_aload_n (0) dX12_lawLine_0 rfl rfl ?_
  refine r_getI (TX := TX12) zc12 (by decide) rfl (Or.inl zg_1372) dX12_lawLine_1 (fun v1 => ?_)
  refine aj_if_ne (tgt := 25) dX12_lawLine_4 (by decide) (fun h => ?_) (fun h => ?_)
  · refine aj_aload_n (0) dX12_lawLine_25 rfl rfl ?_
    refine aj_iconst (v := (1 : Int32)) dX12_lawLine_26 (by decide) ?_
    refine rV_VM (as := [.int ((1 : Int32))]) (c_X12_wrong w S _ _ _) mv_X12_wrong rfl zg_1600 (by decide) (Nat.le_of_ble_eq_true rfl) dX12_lawLine_27 (fun M2 => ?_)
    refine AJ.sub [0] rfl ?_
    exact t_X12_lawLine_30 w hz S (p0) M2
  refine aj_aload_n (0) dX12_lawLine_7 rfl rfl ?_
  refine r_getI (TX := TX12) zc12 (by decide) rfl (Or.inl zg_1373) dX12_lawLine_8 (fun v3 => ?_)
  refine aj_bipush (v := (7 : Int32)) dX12_lawLine_11 (by decide) ?_
  refine aj_icmp_lt (tgt := 25) dX12_lawLine_13 (by decide) (fun h => ?_) (fun h => ?_)
  · refine aj_aload_n (0) dX12_lawLine_25 rfl rfl ?_
    refine aj_iconst (v := (1 : Int32)) dX12_lawLine_26 (by decide) ?_
    refine rV_VM (as := [.int ((1 : Int32))]) (c_X12_wrong w S _ _ _) mv_X12_wrong rfl zg_1600 (by decide) (Nat.le_of_ble_eq_true rfl) dX12_lawLine_27 (fun M4 => ?_)
    refine AJ.sub [0] rfl ?_
    exact t_X12_lawLine_30 w hz S (p0) M4
  refine aj_aload_n (0) dX12_lawLine_16 rfl rfl ?_
  refine r_getI (TX := TX12) zc12 (by decide) rfl (Or.inl zg_1373) dX12_lawLine_17 (fun v5 => ?_)
  refine aj_bipush (v := (9 : Int32)) dX12_lawLine_20 (by decide) ?_
  refine aj_icmp_le (tgt := 30) dX12_lawLine_22 (by decide) (fun h => ?_) (fun h => ?_)
  · refine AJ.sub [0] rfl ?_
    exact t_X12_lawLine_30 w hz S (p0) M
  refine aj_aload_n (0) dX12_lawLine_25 rfl rfl ?_
  refine aj_iconst (v := (1 : Int32)) dX12_lawLine_26 (by decide) ?_
  refine rV_VM (as := [.int ((1 : Int32))]) (c_X12_wrong w S _ _ _) mv_X12_wrong rfl zg_1600 (by decide) (Nat.le_of_ble_eq_true rfl) dX12_lawLine_27 (fun M6 => ?_)
  refine AJ.sub [0] rfl ?_
  exact t_X12_lawLine_30 w hz S (p0) M6
def gX12_line_358 (S : List (Nat × Nat)) (p0 : Nat) (M : zM) : Option zM := zgI S M (p0) 12 66 24 (fun v1 => (if v1 = 0 then zrc S (p0) 12 66 ((gX12_isSign S (p0) ((59 : Int32)) M).bind (fun v2 => (if v2 = 0 then zrc S (p0) 12 66 ((gX12_wrong S (p0) ((1 : Int32)) M).bind (fun M6 => zgI S M6 (p0) 12 66 18 (fun v7 => zpI S M6 (p0) 12 66 18 ((v7 + (1 : Int32))) (fun M8 => some M8)))) else zrc S (p0) 12 66 ((gX12_token S (p0) M).bind (fun M3 => zgI S M3 (p0) 12 66 18 (fun v4 => zpI S M3 (p0) 12 66 18 ((v4 + (1 : Int32))) (fun M5 => some M5))))))) else some M))
set_option maxHeartbeats 4000000 in
set_option maxRecDepth 100000 in
theorem t_X12_line_358 (w : zWd) (hz : zSZ w) (S : List (Nat × Nat)) (p0 : Nat) (M : zM) : AJ (zfVM S) w 792 mX12_line 358 [(0, .ref (p0))] [] (S, M) (gX12_line_358 S p0 M) := by
  unfold gX12_line_358
  refine aj_aload_n (0) dX12_line_358 rfl rfl ?_
  refine r_getI (TX := TX12) zc12 (by decide) rfl (Or.inl zg_1374) dX12_line_359 (fun v1 => ?_)
  refine aj_if_eq (tgt := 366) dX12_line_362 (by decide) (fun h => ?_) (fun h => ?_)
  · refine aj_aload_n (0) dX12_line_366 rfl rfl ?_
    refine aj_bipush (v := (59 : Int32)) dX12_line_367 (by decide) ?_
    refine rV_I (as := [.int ((59 : Int32))]) (c_X12_isSign w S _ _ _) mv_X12_isSign rfl zg_1675 (by decide) (Nat.le_of_ble_eq_true rfl) dX12_line_369 (fun v2 => ?_)
    refine aj_if_ne (tgt := 383) dX12_line_372 (by decide) (fun h => ?_) (fun h => ?_)
    · refine aj_aload_n (0) dX12_line_383 rfl rfl ?_
      refine rV_VM (as := []) (c_X12_token w hz S _ _) mv_X12_token rfl zg_1566 (by decide) (Nat.le_of_ble_eq_true rfl) dX12_line_384 (fun M3 => ?_)
      refine aj_aload_n (0) dX12_line_387 rfl rfl ?_
      refine aj_dup dX12_line_388 rfl ?_
      refine r_getI (TX := TX12) zc12 (by decide) rfl (Or.inl zg_1368) dX12_line_389 (fun v4 => ?_)
      refine aj_iconst (v := (1 : Int32)) dX12_line_392 (by decide) ?_
      refine aj_iadd dX12_line_393 ?_
      refine r_putI (TX := TX12) zc12 (by decide) rfl rfl rfl rfl (Or.inl zg_1368) dX12_line_394 (fun M5 => ?_)
      exact aj_vret dX12_line_397 rfl rfl
    refine aj_aload_n (0) dX12_line_375 rfl rfl ?_
    refine aj_iconst (v := (1 : Int32)) dX12_line_376 (by decide) ?_
    refine rV_VM (as := [.int ((1 : Int32))]) (c_X12_wrong w S _ _ _) mv_X12_wrong rfl zg_1600 (by decide) (Nat.le_of_ble_eq_true rfl) dX12_line_377 (fun M6 => ?_)
    refine aj_goto (tgt := 387) dX12_line_380 (by decide) ?_
    refine aj_aload_n (0) dX12_line_387 rfl rfl ?_
    refine aj_dup dX12_line_388 rfl ?_
    refine r_getI (TX := TX12) zc12 (by decide) rfl (Or.inl zg_1368) dX12_line_389 (fun v7 => ?_)
    refine aj_iconst (v := (1 : Int32)) dX12_line_392 (by decide) ?_
    refine aj_iadd dX12_line_393 ?_
    refine r_putI (TX := TX12) zc12 (by decide) rfl rfl rfl rfl (Or.inl zg_1368) dX12_line_394 (fun M8 => ?_)
    exact aj_vret dX12_line_397 rfl rfl
  exact aj_vret dX12_line_365 rfl rfl
def gX12_line_70 (S : List (Nat × Nat)) (p0 : Nat) (x1 : Int32) (M : zM) : Option zM := zgI S M (p0) 12 66 24 (fun v1 => (if v1 = 0 then zgI S M (p0) 12 66 17 (fun v2 => zpI S M (p0) 12 66 17 ((v2 ||| ((1 : Int32) <<< (x1 &&& 31)))) (fun M3 => zrc S (p0) 12 66 ((gX12_token S (p0) M3).bind (fun M4 => (if x1 = (0 : Int32) then zrc S (p0) 12 66 ((gX12_fresher S (p0) ((0 : Int32)) M4).bind (fun v6 => zgR S M4 (p0) 12 66 4 (fun r7 => zgR S M4 (p0) 12 66 4 (fun r8 => zrc S (p0) 12 66 ((gX12_fresher S (p0) ((0 : Int32)) M4).bind (fun v9 => zrc S (p0) 12 66 (zb2 (gX12_fresh S (p0) (r8) ((6 : Int32)) (v9) M4) (fun v10 M11 => zbI S M11 (r7) (((6 : Int32) + v6)) (v10) (fun M12 => zgR S M12 (p0) 12 66 5 (fun r13 => zrc S (p0) 12 66 (zb2 (gX12_numeral S (p0) ((0 : Int32)) ((23 : Int32)) M12) (fun v14 M15 => zbI S M15 (r13) (((6 : Int32) + v6)) (v14) (fun M16 => zgR S M16 (p0) 12 66 6 (fun r17 => zrc S (p0) 12 66 (zb2 (gX12_numeral S (p0) ((0 : Int32)) ((9 : Int32)) M16) (fun v18 M19 => zbI S M19 (r17) (((6 : Int32) + v6)) (v18) (fun M20 => zrc S (p0) 12 66 ((gX12_fresher S (p0) ((0 : Int32)) M20).bind (fun v21 => zrc S (p0) 12 66 ((gX12_reads S (p0) ((0 : Int32)) ((v21 + (1 : Int32))) M20).bind (fun M22 => gX12_line_358 S (p0) M22))))))))))))))))))))) else (if x1 = (1 : Int32) then zgR S M4 (p0) 12 66 7 (fun r24 => zrc S (p0) 12 66 ((gX12_fresher S (p0) ((1 : Int32)) M4).bind (fun v25 => zrc S (p0) 12 66 (zb2 (gX12_tradeAhead S (p0) M4) (fun v26 M27 => zbI S M27 (r24) (((12 : Int32) + v25)) (v26) (fun M28 => zrc S (p0) 12 66 ((gX12_fresher S (p0) ((1 : Int32)) M28).bind (fun v29 => zrc S (p0) 12 66 ((gX12_reads S (p0) ((1 : Int32)) ((v29 + (1 : Int32))) M28).bind (fun M30 => gX12_line_358 S (p0) M30)))))))))) else (if x1 = (2 : Int32) then zrc S (p0) 12 66 ((gX12_claimLine S (p0) M4).bind (fun M32 => gX12_line_358 S (p0) M32)) else (if x1 = (3 : Int32) then zrc S (p0) 12 66 ((gX12_fresher S (p0) ((3 : Int32)) M4).bind (fun v34 => zgR S M4 (p0) 12 66 9 (fun r35 => zgR S M4 (p0) 12 66 9 (fun r36 => zrc S (p0) 12 66 ((gX12_fresher S (p0) ((3 : Int32)) M4).bind (fun v37 => zrc S (p0) 12 66 (zb2 (gX12_fresh S (p0) (r36) ((5 : Int32)) (v37) M4) (fun v38 M39 => zbI S M39 (r35) (((5 : Int32) + v34)) (v38) (fun M40 => zgR S M40 (p0) 12 66 10 (fun r41 => zrc S (p0) 12 66 (zb2 (gX12_numeral S (p0) ((0 : Int32)) ((24 : Int32)) M40) (fun v42 M43 => zbI S M43 (r41) (((5 : Int32) + v34)) (v42) (fun M44 => zgR S M44 (p0) 12 66 11 (fun r45 => zrc S (p0) 12 66 (zb2 (gX12_numeral S (p0) ((0 : Int32)) ((24 : Int32)) M44) (fun v46 M47 => zbI S M47 (r45) (((5 : Int32) + v34)) (v46) (fun M48 => zgR S M48 (p0) 12 66 12 (fun r49 => zrc S (p0) 12 66 (zb2 (gX12_numeral S (p0) ((1 : Int32)) ((9 : Int32)) M48) (fun v50 M51 => zbI S M51 (r49) (((5 : Int32) + v34)) (v50) (fun M52 => zrc S (p0) 12 66 ((gX12_fresher S (p0) ((3 : Int32)) M52).bind (fun v53 => zrc S (p0) 12 66 ((gX12_reads S (p0) ((3 : Int32)) ((v53 + (1 : Int32))) M52).bind (fun M54 => gX12_line_358 S (p0) M54))))))))))))))))))))))))) else (if x1 = (4 : Int32) then zrc S (p0) 12 66 (zb2 (gX12_numeral S (p0) ((0 : Int32)) ((100 : Int32)) M4) (fun v56 M57 => zrc S (p0) 12 66 ((gX12_reads S (p0) ((4 : Int32)) (v56) M57).bind (fun M58 => gX12_line_358 S (p0) M58)))) else (if x1 = (5 : Int32) then zrc S (p0) 12 66 (zb2 (gX12_numeral S (p0) ((0 : Int32)) ((99999 : Int32)) M4) (fun v60 M61 => zrc S (p0) 12 66 ((gX12_reads S (p0) ((5 : Int32)) (v60) M61).bind (fun M62 => gX12_line_358 S (p0) M62)))) else zrc S (p0) 12 66 ((gX12_lawLine S (p0) M4).bind (fun M63 => gX12_line_358 S (p0) M63)))))))))))) else some M))
set_option maxHeartbeats 4000000 in
set_option maxRecDepth 100000 in
theorem t_X12_line_70 (w : zWd) (hz : zSZ w) (S : List (Nat × Nat)) (p0 : Nat) (x1 : Int32) (M : zM) : AJ (zfVM S) w 792 mX12_line 70 [(0, .ref (p0)), (1, .int (x1))] [] (S, M) (gX12_line_70 S p0 x1 M) := by
  unfold gX12_line_70
  refine aj_aload_n (0) dX12_line_70 rfl rfl ?_
  refine r_getI (TX := TX12) zc12 (by decide) rfl (Or.inl zg_1374) dX12_line_71 (fun v1 => ?_)
  refine aj_if_eq (tgt := 78) dX12_line_74 (by decide) (fun h => ?_) (fun h => ?_)
  · refine aj_aload_n (0) dX12_line_78 rfl rfl ?_
    refine aj_dup dX12_line_79 rfl ?_
    refine r_getI (TX := TX12) zc12 (by decide) rfl (Or.inl zg_1367) dX12_line_80 (fun v2 => ?_)
    refine aj_iconst (v := (1 : Int32)) dX12_line_83 (by decide) ?_
    refine aj_iload_n (1) dX12_line_84 rfl rfl ?_
    refine aj_ishl dX12_line_85 ?_
    refine aj_ior dX12_line_86 ?_
    refine r_putI (TX := TX12) zc12 (by decide) rfl rfl rfl rfl (Or.inl zg_1367) dX12_line_87 (fun M3 => ?_)
    refine aj_aload_n (0) dX12_line_90 rfl rfl ?_
    refine rV_VM (as := []) (c_X12_token w hz S _ _) mv_X12_token rfl zg_1566 (by decide) (Nat.le_of_ble_eq_true rfl) dX12_line_91 (fun M4 => ?_)
    refine aj_iload_n (1) dX12_line_94 rfl rfl ?_
    refine aj_ite (fun h => ?_) (fun h5 => ?_)
    · have h9 : x1 = (0 : Int32) := h
      refine aj_tsw (tgt := 132) (off := 37) dX12_line_95 (by rw [h9]; decide) (by rw [h9]; decide) (by rw [h9]; decide +kernel) (by decide) ?_
      refine aj_bipush (v := (6 : Int32)) dX12_line_132 (by decide) ?_
      refine aj_aload_n (0) dX12_line_134 rfl rfl ?_
      refine aj_iconst (v := (0 : Int32)) dX12_line_135 (by decide) ?_
      refine rV_I (as := [.int ((0 : Int32))]) (c_X12_fresher w S _ _ _) mv_X12_fresher rfl zg_1608 (by decide) (Nat.le_of_ble_eq_true rfl) dX12_line_136 (fun v6 => ?_)
      refine aj_iadd dX12_line_139 ?_
      refine aj_istore_n (ls2 := [(2, .int (((6 : Int32) + v6))), (0, .ref (p0)), (1, .int (x1))]) dX12_line_140 rfl (Nat.le_of_ble_eq_true rfl) rfl ?_
      refine aj_aload_n (1) dX12_line_141 rfl rfl ?_
      refine aj_getR (TX := TX12) zc12 (by decide) rfl (Or.inl zg_1354) dX12_line_142 (fun r7 => ?_)
      refine aj_iload_n (0) dX12_line_145 rfl rfl ?_
      refine aj_aload_n (1) dX12_line_146 rfl rfl ?_
      refine aj_aload_n (1) dX12_line_147 rfl rfl ?_
      refine aj_getR (TX := TX12) zc12 (by decide) rfl (Or.inl zg_1354) dX12_line_148 (fun r8 => ?_)
      refine aj_bipush (v := (6 : Int32)) dX12_line_151 (by decide) ?_
      refine aj_aload_n (1) dX12_line_153 rfl rfl ?_
      refine aj_iconst (v := (0 : Int32)) dX12_line_154 (by decide) ?_
      refine rV_I (as := [.int ((0 : Int32))]) (c_X12_fresher w S _ _ _) mv_X12_fresher rfl zg_1608 (by decide) (Nat.le_of_ble_eq_true rfl) dX12_line_155 (fun v9 => ?_)
      refine rV_IM (as := [.ref (r8), .int ((6 : Int32)), .int (v9)]) (c_X12_fresh w hz S _ _ _ _ _) mv_X12_fresh rfl zg_1612 (by decide) (Nat.le_of_ble_eq_true rfl) dX12_line_158 (fun v10 M11 => ?_)
      refine r_iast dX12_line_161 (fun M12 => ?_)
      refine aj_aload_n (1) dX12_line_162 rfl rfl ?_
      refine aj_getR (TX := TX12) zc12 (by decide) rfl (Or.inl zg_1355) dX12_line_163 (fun r13 => ?_)
      refine aj_iload_n (0) dX12_line_166 rfl rfl ?_
      refine aj_aload_n (1) dX12_line_167 rfl rfl ?_
      refine aj_iconst (v := (0 : Int32)) dX12_line_168 (by decide) ?_
      refine aj_bipush (v := (23 : Int32)) dX12_line_169 (by decide) ?_
      refine rV_IM (as := [.int ((0 : Int32)), .int ((23 : Int32))]) (c_X12_numeral w hz S _ _ _ _) mv_X12_numeral rfl zg_1619 (by decide) (Nat.le_of_ble_eq_true rfl) dX12_line_171 (fun v14 M15 => ?_)
      refine r_iast dX12_line_174 (fun M16 => ?_)
      refine aj_aload_n (1) dX12_line_175 rfl rfl ?_
      refine aj_getR (TX := TX12) zc12 (by decide) rfl (Or.inl zg_1356) dX12_line_176 (fun r17 => ?_)
      refine aj_iload_n (0) dX12_line_179 rfl rfl ?_
      refine aj_aload_n (1) dX12_line_180 rfl rfl ?_
      refine aj_iconst (v := (0 : Int32)) dX12_line_181 (by decide) ?_
      refine aj_bipush (v := (9 : Int32)) dX12_line_182 (by decide) ?_
      refine rV_IM (as := [.int ((0 : Int32)), .int ((9 : Int32))]) (c_X12_numeral w hz S _ _ _ _) mv_X12_numeral rfl zg_1619 (by decide) (Nat.le_of_ble_eq_true rfl) dX12_line_184 (fun v18 M19 => ?_)
      refine r_iast dX12_line_187 (fun M20 => ?_)
      refine aj_aload_n (1) dX12_line_188 rfl rfl ?_
      refine aj_iconst (v := (0 : Int32)) dX12_line_189 (by decide) ?_
      refine aj_aload_n (1) dX12_line_190 rfl rfl ?_
      refine aj_iconst (v := (0 : Int32)) dX12_line_191 (by decide) ?_
      refine rV_I (as := [.int ((0 : Int32))]) (c_X12_fresher w S _ _ _) mv_X12_fresher rfl zg_1608 (by decide) (Nat.le_of_ble_eq_true rfl) dX12_line_192 (fun v21 => ?_)
      refine aj_iconst (v := (1 : Int32)) dX12_line_195 (by decide) ?_
      refine aj_iadd dX12_line_196 ?_
      refine rV_VM (as := [.int ((0 : Int32)), .int ((v21 + (1 : Int32)))]) (c_X12_reads w S _ _ _ _) mv_X12_reads rfl zg_1562 (by decide) (Nat.le_of_ble_eq_true rfl) dX12_line_197 (fun M22 => ?_)
      refine aj_goto (tgt := 358) dX12_line_200 (by decide) ?_
      refine AJ.sub [1] rfl ?_
      exact t_X12_line_358 w hz S (p0) M22
    refine aj_ite (fun h => ?_) (fun h23 => ?_)
    · have h9 : x1 = (1 : Int32) := h
      refine aj_tsw (tgt := 203) (off := 108) dX12_line_95 (by rw [h9]; decide) (by rw [h9]; decide) (by rw [h9]; decide +kernel) (by decide) ?_
      refine aj_aload_n (0) dX12_line_203 rfl rfl ?_
      refine aj_getR (TX := TX12) zc12 (by decide) rfl (Or.inl zg_1357) dX12_line_204 (fun r24 => ?_)
      refine aj_bipush (v := (12 : Int32)) dX12_line_207 (by decide) ?_
      refine aj_aload_n (0) dX12_line_209 rfl rfl ?_
      refine aj_iconst (v := (1 : Int32)) dX12_line_210 (by decide) ?_
      refine rV_I (as := [.int ((1 : Int32))]) (c_X12_fresher w S _ _ _) mv_X12_fresher rfl zg_1608 (by decide) (Nat.le_of_ble_eq_true rfl) dX12_line_211 (fun v25 => ?_)
      refine aj_iadd dX12_line_214 ?_
      refine aj_aload_n (0) dX12_line_215 rfl rfl ?_
      refine rV_IM (as := []) (c_X12_tradeAhead w hz S _ _) mv_X12_tradeAhead rfl zg_1623 (by decide) (Nat.le_of_ble_eq_true rfl) dX12_line_216 (fun v26 M27 => ?_)
      refine r_iast dX12_line_219 (fun M28 => ?_)
      refine aj_aload_n (0) dX12_line_220 rfl rfl ?_
      refine aj_iconst (v := (1 : Int32)) dX12_line_221 (by decide) ?_
      refine aj_aload_n (0) dX12_line_222 rfl rfl ?_
      refine aj_iconst (v := (1 : Int32)) dX12_line_223 (by decide) ?_
      refine rV_I (as := [.int ((1 : Int32))]) (c_X12_fresher w S _ _ _) mv_X12_fresher rfl zg_1608 (by decide) (Nat.le_of_ble_eq_true rfl) dX12_line_224 (fun v29 => ?_)
      refine aj_iconst (v := (1 : Int32)) dX12_line_227 (by decide) ?_
      refine aj_iadd dX12_line_228 ?_
      refine rV_VM (as := [.int ((1 : Int32)), .int ((v29 + (1 : Int32)))]) (c_X12_reads w S _ _ _ _) mv_X12_reads rfl zg_1562 (by decide) (Nat.le_of_ble_eq_true rfl) dX12_line_229 (fun M30 => ?_)
      refine aj_goto (tgt := 358) dX12_line_232 (by decide) ?_
      refine AJ.sub [0] rfl ?_
      exact t_X12_line_358 w hz S (p0) M30
    refine aj_ite (fun h => ?_) (fun h31 => ?_)
    · have h9 : x1 = (2 : Int32) := h
      refine aj_tsw (tgt := 235) (off := 140) dX12_line_95 (by rw [h9]; decide) (by rw [h9]; decide) (by rw [h9]; decide +kernel) (by decide) ?_
      refine aj_aload_n (0) dX12_line_235 rfl rfl ?_
      refine rV_VM (as := []) (c_X12_claimLine w hz S _ _) mv_X12_claimLine rfl zg_1631 (by decide) (Nat.le_of_ble_eq_true rfl) dX12_line_236 (fun M32 => ?_)
      refine aj_goto (tgt := 358) dX12_line_239 (by decide) ?_
      refine AJ.sub [0] rfl ?_
      exact t_X12_line_358 w hz S (p0) M32
    refine aj_ite (fun h => ?_) (fun h33 => ?_)
    · have h9 : x1 = (3 : Int32) := h
      refine aj_tsw (tgt := 242) (off := 147) dX12_line_95 (by rw [h9]; decide) (by rw [h9]; decide) (by rw [h9]; decide +kernel) (by decide) ?_
      refine aj_iconst (v := (5 : Int32)) dX12_line_242 (by decide) ?_
      refine aj_aload_n (0) dX12_line_243 rfl rfl ?_
      refine aj_iconst (v := (3 : Int32)) dX12_line_244 (by decide) ?_
      refine rV_I (as := [.int ((3 : Int32))]) (c_X12_fresher w S _ _ _) mv_X12_fresher rfl zg_1608 (by decide) (Nat.le_of_ble_eq_true rfl) dX12_line_245 (fun v34 => ?_)
      refine aj_iadd dX12_line_248 ?_
      refine aj_istore_n (ls2 := [(3, .int (((5 : Int32) + v34))), (0, .ref (p0)), (1, .int (x1))]) dX12_line_249 rfl (Nat.le_of_ble_eq_true rfl) rfl ?_
      refine aj_aload_n (1) dX12_line_250 rfl rfl ?_
      refine aj_getR (TX := TX12) zc12 (by decide) rfl (Or.inl zg_1359) dX12_line_251 (fun r35 => ?_)
      refine aj_iload_n (0) dX12_line_254 rfl rfl ?_
      refine aj_aload_n (1) dX12_line_255 rfl rfl ?_
      refine aj_aload_n (1) dX12_line_256 rfl rfl ?_
      refine aj_getR (TX := TX12) zc12 (by decide) rfl (Or.inl zg_1359) dX12_line_257 (fun r36 => ?_)
      refine aj_iconst (v := (5 : Int32)) dX12_line_260 (by decide) ?_
      refine aj_aload_n (1) dX12_line_261 rfl rfl ?_
      refine aj_iconst (v := (3 : Int32)) dX12_line_262 (by decide) ?_
      refine rV_I (as := [.int ((3 : Int32))]) (c_X12_fresher w S _ _ _) mv_X12_fresher rfl zg_1608 (by decide) (Nat.le_of_ble_eq_true rfl) dX12_line_263 (fun v37 => ?_)
      refine rV_IM (as := [.ref (r36), .int ((5 : Int32)), .int (v37)]) (c_X12_fresh w hz S _ _ _ _ _) mv_X12_fresh rfl zg_1612 (by decide) (Nat.le_of_ble_eq_true rfl) dX12_line_266 (fun v38 M39 => ?_)
      refine r_iast dX12_line_269 (fun M40 => ?_)
      refine aj_aload_n (1) dX12_line_270 rfl rfl ?_
      refine aj_getR (TX := TX12) zc12 (by decide) rfl (Or.inl zg_1360) dX12_line_271 (fun r41 => ?_)
      refine aj_iload_n (0) dX12_line_274 rfl rfl ?_
      refine aj_aload_n (1) dX12_line_275 rfl rfl ?_
      refine aj_iconst (v := (0 : Int32)) dX12_line_276 (by decide) ?_
      refine aj_bipush (v := (24 : Int32)) dX12_line_277 (by decide) ?_
      refine rV_IM (as := [.int ((0 : Int32)), .int ((24 : Int32))]) (c_X12_numeral w hz S _ _ _ _) mv_X12_numeral rfl zg_1619 (by decide) (Nat.le_of_ble_eq_true rfl) dX12_line_279 (fun v42 M43 => ?_)
      refine r_iast dX12_line_282 (fun M44 => ?_)
      refine aj_aload_n (1) dX12_line_283 rfl rfl ?_
      refine aj_getR (TX := TX12) zc12 (by decide) rfl (Or.inl zg_1361) dX12_line_284 (fun r45 => ?_)
      refine aj_iload_n (0) dX12_line_287 rfl rfl ?_
      refine aj_aload_n (1) dX12_line_288 rfl rfl ?_
      refine aj_iconst (v := (0 : Int32)) dX12_line_289 (by decide) ?_
      refine aj_bipush (v := (24 : Int32)) dX12_line_290 (by decide) ?_
      refine rV_IM (as := [.int ((0 : Int32)), .int ((24 : Int32))]) (c_X12_numeral w hz S _ _ _ _) mv_X12_numeral rfl zg_1619 (by decide) (Nat.le_of_ble_eq_true rfl) dX12_line_292 (fun v46 M47 => ?_)
      refine r_iast dX12_line_295 (fun M48 => ?_)
      refine aj_aload_n (1) dX12_line_296 rfl rfl ?_
      refine aj_getR (TX := TX12) zc12 (by decide) rfl (Or.inl zg_1362) dX12_line_297 (fun r49 => ?_)
      refine aj_iload_n (0) dX12_line_300 rfl rfl ?_
      refine aj_aload_n (1) dX12_line_301 rfl rfl ?_
      refine aj_iconst (v := (1 : Int32)) dX12_line_302 (by decide) ?_
      refine aj_bipush (v := (9 : Int32)) dX12_line_303 (by decide) ?_
      refine rV_IM (as := [.int ((1 : Int32)), .int ((9 : Int32))]) (c_X12_numeral w hz S _ _ _ _) mv_X12_numeral rfl zg_1619 (by decide) (Nat.le_of_ble_eq_true rfl) dX12_line_305 (fun v50 M51 => ?_)
      refine r_iast dX12_line_308 (fun M52 => ?_)
      refine aj_aload_n (1) dX12_line_309 rfl rfl ?_
      refine aj_iconst (v := (3 : Int32)) dX12_line_310 (by decide) ?_
      refine aj_aload_n (1) dX12_line_311 rfl rfl ?_
      refine aj_iconst (v := (3 : Int32)) dX12_line_312 (by decide) ?_
      refine rV_I (as := [.int ((3 : Int32))]) (c_X12_fresher w S _ _ _) mv_X12_fresher rfl zg_1608 (by decide) (Nat.le_of_ble_eq_true rfl) dX12_line_313 (fun v53 => ?_)
      refine aj_iconst (v := (1 : Int32)) dX12_line_316 (by decide) ?_
      refine aj_iadd dX12_line_317 ?_
      refine rV_VM (as := [.int ((3 : Int32)), .int ((v53 + (1 : Int32)))]) (c_X12_reads w S _ _ _ _) mv_X12_reads rfl zg_1562 (by decide) (Nat.le_of_ble_eq_true rfl) dX12_line_318 (fun M54 => ?_)
      refine aj_goto (tgt := 358) dX12_line_321 (by decide) ?_
      refine AJ.sub [1] rfl ?_
      exact t_X12_line_358 w hz S (p0) M54
    refine aj_ite (fun h => ?_) (fun h55 => ?_)
    · have h9 : x1 = (4 : Int32) := h
      refine aj_tsw (tgt := 324) (off := 229) dX12_line_95 (by rw [h9]; decide) (by rw [h9]; decide) (by rw [h9]; decide +kernel) (by decide) ?_
      refine aj_aload_n (0) dX12_line_324 rfl rfl ?_
      refine aj_iconst (v := (4 : Int32)) dX12_line_325 (by decide) ?_
      refine aj_aload_n (0) dX12_line_326 rfl rfl ?_
      refine aj_iconst (v := (0 : Int32)) dX12_line_327 (by decide) ?_
      refine aj_bipush (v := (100 : Int32)) dX12_line_328 (by decide) ?_
      refine rV_IM (as := [.int ((0 : Int32)), .int ((100 : Int32))]) (c_X12_numeral w hz S _ _ _ _) mv_X12_numeral rfl zg_1619 (by decide) (Nat.le_of_ble_eq_true rfl) dX12_line_330 (fun v56 M57 => ?_)
      refine rV_VM (as := [.int ((4 : Int32)), .int (v56)]) (c_X12_reads w S _ _ _ _) mv_X12_reads rfl zg_1562 (by decide) (Nat.le_of_ble_eq_true rfl) dX12_line_333 (fun M58 => ?_)
      refine aj_goto (tgt := 358) dX12_line_336 (by decide) ?_
      refine AJ.sub [0] rfl ?_
      exact t_X12_line_358 w hz S (p0) M58
    refine aj_ite (fun h => ?_) (fun h59 => ?_)
    · have h9 : x1 = (5 : Int32) := h
      refine aj_tsw (tgt := 339) (off := 244) dX12_line_95 (by rw [h9]; decide) (by rw [h9]; decide) (by rw [h9]; decide +kernel) (by decide) ?_
      refine aj_aload_n (0) dX12_line_339 rfl rfl ?_
      refine aj_iconst (v := (5 : Int32)) dX12_line_340 (by decide) ?_
      refine aj_aload_n (0) dX12_line_341 rfl rfl ?_
      refine aj_iconst (v := (0 : Int32)) dX12_line_342 (by decide) ?_
      refine aj_ldc (v := (99999 : Int32)) dX12_line_343 zg_1591 ?_
      refine rV_IM (as := [.int ((0 : Int32)), .int ((99999 : Int32))]) (c_X12_numeral w hz S _ _ _ _) mv_X12_numeral rfl zg_1619 (by decide) (Nat.le_of_ble_eq_true rfl) dX12_line_345 (fun v60 M61 => ?_)
      refine rV_VM (as := [.int ((5 : Int32)), .int (v60)]) (c_X12_reads w S _ _ _ _) mv_X12_reads rfl zg_1562 (by decide) (Nat.le_of_ble_eq_true rfl) dX12_line_348 (fun M62 => ?_)
      refine aj_goto (tgt := 358) dX12_line_351 (by decide) ?_
      refine AJ.sub [0] rfl ?_
      exact t_X12_line_358 w hz S (p0) M62
    refine aj_tswO (tgt := 354) dX12_line_95 (by have a0 := lv_neT (k := (0 : Int32)) h5 (a := 0) (by decide); have a1 := lv_neT (k := (1 : Int32)) h23 (a := 1) (by decide); have a2 := lv_neT (k := (2 : Int32)) h31 (a := 2) (by decide); have a3 := lv_neT (k := (3 : Int32)) h33 (a := 3) (by decide); have a4 := lv_neT (k := (4 : Int32)) h55 (a := 4) (by decide); have a5 := lv_neT (k := (5 : Int32)) h59 (a := 5) (by decide); omega) (by decide) ?_
    refine aj_aload_n (0) dX12_line_354 rfl rfl ?_
    refine rV_VM (as := []) (c_X12_lawLine w hz S _ _) mv_X12_lawLine rfl zg_1635 (by decide) (Nat.le_of_ble_eq_true rfl) dX12_line_355 (fun M63 => ?_)
    refine AJ.sub [0] rfl ?_
    exact t_X12_line_358 w hz S (p0) M63
  exact aj_vret dX12_line_77 rfl rfl
def gX12_line (S : List (Nat × Nat)) (p0 : Nat) (M : zM) : Option zM := zgI S M (p0) 12 66 22 (fun v1 => (if v1 = 0 then zgI S M (p0) 12 66 23 (fun v3 => (if v3 ≤ (6 : Int32) then zgI S M (p0) 12 66 23 (fun v4 => zrc S (p0) 12 66 ((gX12_isFull S (p0) (v4) M).bind (fun v5 => (if v5 = 0 then (if v4 = (4 : Int32) then zgI S M (p0) 12 66 17 (fun v6 => (if ((v6 >>> (v4 &&& 31)) &&& (1 : Int32)) = (1 : Int32) then zrc S (p0) 12 66 ((gX12_wrong S (p0) ((3 : Int32)) M).bind (fun M7 => gX12_line_70 S (p0) (v4) M7)) else gX12_line_70 S (p0) (v4) M)) else (if v4 = (5 : Int32) then zgI S M (p0) 12 66 17 (fun v8 => (if ((v8 >>> (v4 &&& 31)) &&& (1 : Int32)) = (1 : Int32) then zrc S (p0) 12 66 ((gX12_wrong S (p0) ((3 : Int32)) M).bind (fun M9 => gX12_line_70 S (p0) (v4) M9)) else gX12_line_70 S (p0) (v4) M)) else gX12_line_70 S (p0) (v4) M)) else zrc S (p0) 12 66 ((gX12_wrong S (p0) ((2 : Int32)) M).bind (fun M10 => gX12_line_70 S (p0) (v4) M10)))))) else zrc S (p0) 12 66 ((gX12_wrong S (p0) ((1 : Int32)) M).bind (fun M11 => some M11)))) else zrc S (p0) 12 66 ((gX12_wrong S (p0) ((1 : Int32)) M).bind (fun M2 => some M2))))
set_option maxHeartbeats 4000000 in
set_option maxRecDepth 100000 in
theorem c_X12_line (w : zWd) (hz : zSZ w) (S : List (Nat × Nat)) (p0 : Nat) (M : zM) : CT (zfVM S) w 792 mX12_line [.ref (p0)] (S, M) (gX12_line S p0 M) := by
  refine CT.of (by decide) (Nat.le_of_ble_eq_true rfl) ?_
  show AJ _ _ _ _ 0 [(0, .ref (p0))] [] _ _
  unfold gX12_line
  refine aj_aload_n (0) dX12_line_0 rfl rfl ?_
  refine r_getI (TX := TX12) zc12 (by decide) rfl (Or.inl zg_1372) dX12_line_1 (fun v1 => ?_)
  refine aj_if_ne (tgt := 16) dX12_line_4 (by decide) (fun h => ?_) (fun h => ?_)
  · refine aj_aload_n (0) dX12_line_16 rfl rfl ?_
    refine aj_iconst (v := (1 : Int32)) dX12_line_17 (by decide) ?_
    refine rV_VM (as := [.int ((1 : Int32))]) (c_X12_wrong w S _ _ _) mv_X12_wrong rfl zg_1600 (by decide) (Nat.le_of_ble_eq_true rfl) dX12_line_18 (fun M2 => ?_)
    exact aj_vret dX12_line_21 rfl rfl
  refine aj_aload_n (0) dX12_line_7 rfl rfl ?_
  refine r_getI (TX := TX12) zc12 (by decide) rfl (Or.inl zg_1373) dX12_line_8 (fun v3 => ?_)
  refine aj_bipush (v := (6 : Int32)) dX12_line_11 (by decide) ?_
  refine aj_icmp_le (tgt := 22) dX12_line_13 (by decide) (fun h => ?_) (fun h => ?_)
  · refine aj_aload_n (0) dX12_line_22 rfl rfl ?_
    refine r_getI (TX := TX12) zc12 (by decide) rfl (Or.inl zg_1373) dX12_line_23 (fun v4 => ?_)
    refine aj_istore_n (ls2 := [(1, .int (v4)), (0, .ref (p0))]) dX12_line_26 rfl (Nat.le_of_ble_eq_true rfl) rfl ?_
    refine aj_aload_n (1) dX12_line_27 rfl rfl ?_
    refine aj_iload_n (0) dX12_line_28 rfl rfl ?_
    refine rV_I (as := [.int (v4)]) (c_X12_isFull w S _ _ _) mv_X12_isFull rfl zg_1604 (by decide) (Nat.le_of_ble_eq_true rfl) dX12_line_29 (fun v5 => ?_)
    refine aj_if_eq (tgt := 43) dX12_line_32 (by decide) (fun h => ?_) (fun h => ?_)
    · refine aj_iload_n (0) dX12_line_43 rfl rfl ?_
      refine aj_iconst (v := (4 : Int32)) dX12_line_44 (by decide) ?_
      refine aj_icmp_eq (tgt := 53) dX12_line_45 (by decide) (fun h => ?_) (fun h => ?_)
      · refine aj_aload_n (1) dX12_line_53 rfl rfl ?_
        refine r_getI (TX := TX12) zc12 (by decide) rfl (Or.inl zg_1367) dX12_line_54 (fun v6 => ?_)
        refine aj_iload_n (0) dX12_line_57 rfl rfl ?_
        refine aj_ishr dX12_line_58 ?_
        refine aj_iconst (v := (1 : Int32)) dX12_line_59 (by decide) ?_
        refine aj_iand dX12_line_60 ?_
        refine aj_iconst (v := (1 : Int32)) dX12_line_61 (by decide) ?_
        refine aj_icmp_ne (tgt := 70) dX12_line_62 (by decide) (fun h => ?_) (fun h => ?_)
        · refine AJ.sub [1, 0] rfl ?_
          exact t_X12_line_70 w hz S (p0) (v4) M
        refine aj_aload_n (1) dX12_line_65 rfl rfl ?_
        refine aj_iconst (v := (3 : Int32)) dX12_line_66 (by decide) ?_
        refine rV_VM (as := [.int ((3 : Int32))]) (c_X12_wrong w S _ _ _) mv_X12_wrong rfl zg_1600 (by decide) (Nat.le_of_ble_eq_true rfl) dX12_line_67 (fun M7 => ?_)
        refine AJ.sub [1, 0] rfl ?_
        exact t_X12_line_70 w hz S (p0) (v4) M7
      refine aj_iload_n (0) dX12_line_48 rfl rfl ?_
      refine aj_iconst (v := (5 : Int32)) dX12_line_49 (by decide) ?_
      refine aj_icmp_ne (tgt := 70) dX12_line_50 (by decide) (fun h => ?_) (fun h => ?_)
      · refine AJ.sub [1, 0] rfl ?_
        exact t_X12_line_70 w hz S (p0) (v4) M
      refine aj_aload_n (1) dX12_line_53 rfl rfl ?_
      refine r_getI (TX := TX12) zc12 (by decide) rfl (Or.inl zg_1367) dX12_line_54 (fun v8 => ?_)
      refine aj_iload_n (0) dX12_line_57 rfl rfl ?_
      refine aj_ishr dX12_line_58 ?_
      refine aj_iconst (v := (1 : Int32)) dX12_line_59 (by decide) ?_
      refine aj_iand dX12_line_60 ?_
      refine aj_iconst (v := (1 : Int32)) dX12_line_61 (by decide) ?_
      refine aj_icmp_ne (tgt := 70) dX12_line_62 (by decide) (fun h => ?_) (fun h => ?_)
      · refine AJ.sub [1, 0] rfl ?_
        exact t_X12_line_70 w hz S (p0) (v4) M
      refine aj_aload_n (1) dX12_line_65 rfl rfl ?_
      refine aj_iconst (v := (3 : Int32)) dX12_line_66 (by decide) ?_
      refine rV_VM (as := [.int ((3 : Int32))]) (c_X12_wrong w S _ _ _) mv_X12_wrong rfl zg_1600 (by decide) (Nat.le_of_ble_eq_true rfl) dX12_line_67 (fun M9 => ?_)
      refine AJ.sub [1, 0] rfl ?_
      exact t_X12_line_70 w hz S (p0) (v4) M9
    refine aj_aload_n (1) dX12_line_35 rfl rfl ?_
    refine aj_iconst (v := (2 : Int32)) dX12_line_36 (by decide) ?_
    refine rV_VM (as := [.int ((2 : Int32))]) (c_X12_wrong w S _ _ _) mv_X12_wrong rfl zg_1600 (by decide) (Nat.le_of_ble_eq_true rfl) dX12_line_37 (fun M10 => ?_)
    refine aj_goto (tgt := 70) dX12_line_40 (by decide) ?_
    refine AJ.sub [1, 0] rfl ?_
    exact t_X12_line_70 w hz S (p0) (v4) M10
  refine aj_aload_n (0) dX12_line_16 rfl rfl ?_
  refine aj_iconst (v := (1 : Int32)) dX12_line_17 (by decide) ?_
  refine rV_VM (as := [.int ((1 : Int32))]) (c_X12_wrong w S _ _ _) mv_X12_wrong rfl zg_1600 (by decide) (Nat.le_of_ble_eq_true rfl) dX12_line_18 (fun M11 => ?_)
  exact aj_vret dX12_line_21 rfl rfl
def gX12_half_7 (S : List (Nat × Nat)) : Nat → Nat → Int32 → Int32 → zM → Option zM
  | 0 => fun _ _ _ _ => none
  | n + 1 => fun p0 x1 x2 M => (if x1 ≤ x2 then some M else zaI S M 100 (p0) ((x1 + x2)) (fun v1 => zbI S M (p0) (x2) (v1) (fun M2 => (gX12_half_7 S   n) (p0) (x1) ((x2 + (1 : Int32))) M2)))
set_option maxHeartbeats 4000000 in
set_option maxRecDepth 100000 in
theorem t_X12_half_7 (w : zWd) (S : List (Nat × Nat)) (fu : Nat) : ∀ (p0 : Nat) (x1 : Int32) (x2 : Int32) (M : zM), AJ (zfVM S) w 1 mX12_half 7 [(0, .ref (p0)), (1, .int (x1)), (2, .int (x2))] [] (S, M) (gX12_half_7 S fu p0 x1 x2 M) := by
  induction fu with
  | zero => intro p0 x1 x2 M; exact AJ.none
  | succ n ih =>
    intro p0 x1 x2 M
    unfold gX12_half_7
    refine aj_iload_n (2) dX12_half_7 rfl rfl ?_
    refine aj_iload_n (1) dX12_half_8 rfl rfl ?_
    refine aj_icmp_ge (tgt := 26) dX12_half_9 (by decide) (fun h => ?_) (fun h => ?_)
    · exact aj_vret dX12_half_26 rfl rfl
    refine aj_aload_n (0) dX12_half_12 rfl rfl ?_
    refine aj_iload_n (2) dX12_half_13 rfl rfl ?_
    refine aj_aload_n (0) dX12_half_14 rfl rfl ?_
    refine aj_iload_n (1) dX12_half_15 rfl rfl ?_
    refine aj_iload_n (2) dX12_half_16 rfl rfl ?_
    refine aj_iadd dX12_half_17 ?_
    refine r_iald dX12_half_18 (fun v1 => ?_)
    refine r_iast dX12_half_19 (fun M2 => ?_)
    refine aj_iinc (j := 2) (v := (x2 + (1 : Int32))) (ls2 := [(2, .int ((x2 + (1 : Int32)))), (0, .ref (p0)), (1, .int (x1))]) dX12_half_20 rfl rfl (Nat.le_of_ble_eq_true rfl) rfl ?_
    refine aj_goto (tgt := 7) dX12_half_23 (by decide) ?_
    refine AJ.sub [1, 2, 0] rfl ?_
    exact ih (p0) (x1) ((x2 + (1 : Int32))) M2
def gX12_half (S : List (Nat × Nat)) (p0 : Nat) (M : zM) : Option zM := zal S 100 (p0) (fun v1 => gX12_half_7 S zfu (p0) ((v1 / (2 : Int32))) ((0 : Int32)) M)
set_option maxHeartbeats 4000000 in
set_option maxRecDepth 100000 in
theorem c_X12_half (w : zWd) (S : List (Nat × Nat)) (p0 : Nat) (M : zM) : CT (zfVM S) w 1 mX12_half [.ref (p0)] (S, M) (gX12_half S p0 M) := by
  refine CT.of (by decide) (Nat.le_of_ble_eq_true rfl) ?_
  show AJ _ _ _ _ 0 [(0, .ref (p0))] [] _ _
  unfold gX12_half
  refine aj_aload_n (0) dX12_half_0 rfl rfl ?_
  refine r_alen (t := 100) (by decide) dX12_half_1 (fun v1 => ?_)
  refine aj_iconst (v := (2 : Int32)) dX12_half_2 (by decide) ?_
  refine aj_idivc dX12_half_3 (by decide) ?_
  refine aj_istore_n (ls2 := [(1, .int ((v1 / (2 : Int32)))), (0, .ref (p0))]) dX12_half_4 rfl (Nat.le_of_ble_eq_true rfl) rfl ?_
  refine aj_iconst (v := (0 : Int32)) dX12_half_5 (by decide) ?_
  refine aj_istore_n (ls2 := [(2, .int ((0 : Int32))), (1, .int ((v1 / (2 : Int32)))), (0, .ref (p0))]) dX12_half_6 rfl (Nat.le_of_ble_eq_true rfl) rfl ?_
  refine AJ.sub [2, 1, 0] rfl ?_
  exact t_X12_half_7 w S zfu (p0) ((v1 / (2 : Int32))) ((0 : Int32)) M
def gX12_text_162 (S : List (Nat × Nat)) (p0 : Nat) (M : zM) : Option (Int32 × zM) := zgI S M (p0) 12 66 24 (fun v1 => zpI S M (p0) 12 66 26 (v1) (fun M2 => zgI S M2 (p0) 12 66 25 (fun v3 => zpI S M2 (p0) 12 66 27 (v3) (fun M4 => zgI S M4 (p0) 12 66 24 (fun v5 => (if v5 = 0 then zgR S M4 (p0) 12 66 3 (fun r6 => (gX12_half S (r6) M4).bind (fun M7 => zgR S M7 (p0) 12 66 4 (fun r8 => (gX12_half S (r8) M7).bind (fun M9 => zgR S M9 (p0) 12 66 5 (fun r10 => (gX12_half S (r10) M9).bind (fun M11 => zgR S M11 (p0) 12 66 6 (fun r12 => (gX12_half S (r12) M11).bind (fun M13 => zgR S M13 (p0) 12 66 7 (fun r14 => (gX12_half S (r14) M13).bind (fun M15 => zgR S M15 (p0) 12 66 8 (fun r16 => (gX12_half S (r16) M15).bind (fun M17 => zgR S M17 (p0) 12 66 9 (fun r18 => (gX12_half S (r18) M17).bind (fun M19 => zgR S M19 (p0) 12 66 10 (fun r20 => (gX12_half S (r20) M19).bind (fun M21 => zgR S M21 (p0) 12 66 11 (fun r22 => (gX12_half S (r22) M21).bind (fun M23 => zgR S M23 (p0) 12 66 12 (fun r24 => (gX12_half S (r24) M23).bind (fun M25 => zgR S M25 (p0) 12 66 13 (fun r26 => (gX12_half S (r26) M25).bind (fun M27 => zgR S M27 (p0) 12 66 14 (fun r28 => (gX12_half S (r28) M27).bind (fun M29 => zgR S M29 (p0) 12 66 15 (fun r30 => (gX12_half S (r30) M29).bind (fun M31 => zgR S M31 (p0) 12 66 16 (fun r32 => (gX12_half S (r32) M31).bind (fun M33 => zpI S M33 (p0) 12 66 58 ((0 : Int32)) (fun M34 => zpI S M34 (p0) 12 66 59 ((-1 : Int32)) (fun M35 => zpI S M35 (p0) 12 66 45 ((0 : Int32)) (fun M36 => zpI S M36 (p0) 12 66 46 ((0 : Int32)) (fun M37 => zrc S (p0) 12 66 ((gX12_begins S (p0) M37).bind (fun M38 => zgI S M38 (p0) 12 66 18 (fun v39 => some (v39, M38)))))))))))))))))))))))))))))))))))) else some ((-1 : Int32), M4)))))))
set_option maxHeartbeats 4000000 in
set_option maxRecDepth 100000 in
theorem t_X12_text_162 (w : zWd) (hz : zSZ w) (S : List (Nat × Nat)) (p0 : Nat) (M : zM) : AJ (zfIM S) w 793 mX12_text 162 [(0, .ref (p0))] [] (S, M) (gX12_text_162 S p0 M) := by
  unfold gX12_text_162
  refine aj_aload_n (0) dX12_text_162 rfl rfl ?_
  refine aj_aload_n (0) dX12_text_163 rfl rfl ?_
  refine r_getI (TX := TX12) zc12 (by decide) rfl (Or.inl zg_1374) dX12_text_164 (fun v1 => ?_)
  refine r_putI (TX := TX12) zc12 (by decide) rfl rfl rfl rfl (Or.inl zg_1376) dX12_text_167 (fun M2 => ?_)
  refine aj_aload_n (0) dX12_text_170 rfl rfl ?_
  refine aj_aload_n (0) dX12_text_171 rfl rfl ?_
  refine r_getI (TX := TX12) zc12 (by decide) rfl (Or.inl zg_1375) dX12_text_172 (fun v3 => ?_)
  refine r_putI (TX := TX12) zc12 (by decide) rfl rfl rfl rfl (Or.inl zg_1377) dX12_text_175 (fun M4 => ?_)
  refine aj_aload_n (0) dX12_text_178 rfl rfl ?_
  refine r_getI (TX := TX12) zc12 (by decide) rfl (Or.inl zg_1374) dX12_text_179 (fun v5 => ?_)
  refine aj_if_eq (tgt := 187) dX12_text_182 (by decide) (fun h => ?_) (fun h => ?_)
  · refine aj_aload_n (0) dX12_text_187 rfl rfl ?_
    refine aj_getR (TX := TX12) zc12 (by decide) rfl (Or.inl zg_1353) dX12_text_188 (fun r6 => ?_)
    refine rS_VM (as := [.ref (r6)]) (c_X12_half w S _ _) ms_X12_half rfl zg_1679 (by decide) (Nat.le_of_ble_eq_true rfl) dX12_text_191 (fun M7 => ?_)
    refine aj_aload_n (0) dX12_text_194 rfl rfl ?_
    refine aj_getR (TX := TX12) zc12 (by decide) rfl (Or.inl zg_1354) dX12_text_195 (fun r8 => ?_)
    refine rS_VM (as := [.ref (r8)]) (c_X12_half w S _ _) ms_X12_half rfl zg_1679 (by decide) (Nat.le_of_ble_eq_true rfl) dX12_text_198 (fun M9 => ?_)
    refine aj_aload_n (0) dX12_text_201 rfl rfl ?_
    refine aj_getR (TX := TX12) zc12 (by decide) rfl (Or.inl zg_1355) dX12_text_202 (fun r10 => ?_)
    refine rS_VM (as := [.ref (r10)]) (c_X12_half w S _ _) ms_X12_half rfl zg_1679 (by decide) (Nat.le_of_ble_eq_true rfl) dX12_text_205 (fun M11 => ?_)
    refine aj_aload_n (0) dX12_text_208 rfl rfl ?_
    refine aj_getR (TX := TX12) zc12 (by decide) rfl (Or.inl zg_1356) dX12_text_209 (fun r12 => ?_)
    refine rS_VM (as := [.ref (r12)]) (c_X12_half w S _ _) ms_X12_half rfl zg_1679 (by decide) (Nat.le_of_ble_eq_true rfl) dX12_text_212 (fun M13 => ?_)
    refine aj_aload_n (0) dX12_text_215 rfl rfl ?_
    refine aj_getR (TX := TX12) zc12 (by decide) rfl (Or.inl zg_1357) dX12_text_216 (fun r14 => ?_)
    refine rS_VM (as := [.ref (r14)]) (c_X12_half w S _ _) ms_X12_half rfl zg_1679 (by decide) (Nat.le_of_ble_eq_true rfl) dX12_text_219 (fun M15 => ?_)
    refine aj_aload_n (0) dX12_text_222 rfl rfl ?_
    refine aj_getR (TX := TX12) zc12 (by decide) rfl (Or.inl zg_1358) dX12_text_223 (fun r16 => ?_)
    refine rS_VM (as := [.ref (r16)]) (c_X12_half w S _ _) ms_X12_half rfl zg_1679 (by decide) (Nat.le_of_ble_eq_true rfl) dX12_text_226 (fun M17 => ?_)
    refine aj_aload_n (0) dX12_text_229 rfl rfl ?_
    refine aj_getR (TX := TX12) zc12 (by decide) rfl (Or.inl zg_1359) dX12_text_230 (fun r18 => ?_)
    refine rS_VM (as := [.ref (r18)]) (c_X12_half w S _ _) ms_X12_half rfl zg_1679 (by decide) (Nat.le_of_ble_eq_true rfl) dX12_text_233 (fun M19 => ?_)
    refine aj_aload_n (0) dX12_text_236 rfl rfl ?_
    refine aj_getR (TX := TX12) zc12 (by decide) rfl (Or.inl zg_1360) dX12_text_237 (fun r20 => ?_)
    refine rS_VM (as := [.ref (r20)]) (c_X12_half w S _ _) ms_X12_half rfl zg_1679 (by decide) (Nat.le_of_ble_eq_true rfl) dX12_text_240 (fun M21 => ?_)
    refine aj_aload_n (0) dX12_text_243 rfl rfl ?_
    refine aj_getR (TX := TX12) zc12 (by decide) rfl (Or.inl zg_1361) dX12_text_244 (fun r22 => ?_)
    refine rS_VM (as := [.ref (r22)]) (c_X12_half w S _ _) ms_X12_half rfl zg_1679 (by decide) (Nat.le_of_ble_eq_true rfl) dX12_text_247 (fun M23 => ?_)
    refine aj_aload_n (0) dX12_text_250 rfl rfl ?_
    refine aj_getR (TX := TX12) zc12 (by decide) rfl (Or.inl zg_1362) dX12_text_251 (fun r24 => ?_)
    refine rS_VM (as := [.ref (r24)]) (c_X12_half w S _ _) ms_X12_half rfl zg_1679 (by decide) (Nat.le_of_ble_eq_true rfl) dX12_text_254 (fun M25 => ?_)
    refine aj_aload_n (0) dX12_text_257 rfl rfl ?_
    refine aj_getR (TX := TX12) zc12 (by decide) rfl (Or.inl zg_1363) dX12_text_258 (fun r26 => ?_)
    refine rS_VM (as := [.ref (r26)]) (c_X12_half w S _ _) ms_X12_half rfl zg_1679 (by decide) (Nat.le_of_ble_eq_true rfl) dX12_text_261 (fun M27 => ?_)
    refine aj_aload_n (0) dX12_text_264 rfl rfl ?_
    refine aj_getR (TX := TX12) zc12 (by decide) rfl (Or.inl zg_1364) dX12_text_265 (fun r28 => ?_)
    refine rS_VM (as := [.ref (r28)]) (c_X12_half w S _ _) ms_X12_half rfl zg_1679 (by decide) (Nat.le_of_ble_eq_true rfl) dX12_text_268 (fun M29 => ?_)
    refine aj_aload_n (0) dX12_text_271 rfl rfl ?_
    refine aj_getR (TX := TX12) zc12 (by decide) rfl (Or.inl zg_1365) dX12_text_272 (fun r30 => ?_)
    refine rS_VM (as := [.ref (r30)]) (c_X12_half w S _ _) ms_X12_half rfl zg_1679 (by decide) (Nat.le_of_ble_eq_true rfl) dX12_text_275 (fun M31 => ?_)
    refine aj_aload_n (0) dX12_text_278 rfl rfl ?_
    refine aj_getR (TX := TX12) zc12 (by decide) rfl (Or.inl zg_1366) dX12_text_279 (fun r32 => ?_)
    refine rS_VM (as := [.ref (r32)]) (c_X12_half w S _ _) ms_X12_half rfl zg_1679 (by decide) (Nat.le_of_ble_eq_true rfl) dX12_text_282 (fun M33 => ?_)
    refine aj_aload_n (0) dX12_text_285 rfl rfl ?_
    refine aj_iconst (v := (0 : Int32)) dX12_text_286 (by decide) ?_
    refine r_putI (TX := TX12) zc12 (by decide) rfl rfl rfl rfl (Or.inl zg_1408) dX12_text_287 (fun M34 => ?_)
    refine aj_aload_n (0) dX12_text_290 rfl rfl ?_
    refine aj_iconst (v := (-1 : Int32)) dX12_text_291 (by decide) ?_
    refine r_putI (TX := TX12) zc12 (by decide) rfl rfl rfl rfl (Or.inl zg_1409) dX12_text_292 (fun M35 => ?_)
    refine aj_aload_n (0) dX12_text_295 rfl rfl ?_
    refine aj_iconst (v := (0 : Int32)) dX12_text_296 (by decide) ?_
    refine r_putI (TX := TX12) zc12 (by decide) rfl rfl (by decide +kernel) rfl (Or.inl zg_1395) dX12_text_297 (fun M36 => ?_)
    refine aj_aload_n (0) dX12_text_300 rfl rfl ?_
    refine aj_iconst (v := (0 : Int32)) dX12_text_301 (by decide) ?_
    refine r_putI (TX := TX12) zc12 (by decide) rfl rfl rfl rfl (Or.inl zg_1396) dX12_text_302 (fun M37 => ?_)
    refine aj_aload_n (0) dX12_text_305 rfl rfl ?_
    refine rV_VM (as := []) (c_X12_begins w S _ _) mv_X12_begins rfl zg_1342 (by decide) (Nat.le_of_ble_eq_true rfl) dX12_text_306 (fun M38 => ?_)
    refine aj_aload_n (0) dX12_text_309 rfl rfl ?_
    refine r_getI (TX := TX12) zc12 (by decide) rfl (Or.inl zg_1368) dX12_text_310 (fun v39 => ?_)
    exact aj_iret dX12_text_313 rfl rfl rfl
  refine aj_iconst (v := (-1 : Int32)) dX12_text_185 (by decide) ?_
  exact aj_iret dX12_text_186 rfl rfl rfl
def gX12_text_140 (S : List (Nat × Nat)) : Nat → Nat → zM → Option (Int32 × zM)
  | 0 => fun _ _ => none
  | n + 1 => fun p0 M => zgI S M (p0) 12 66 24 (fun v1 => (if v1 = 0 then zgI S M (p0) 12 66 22 (fun v2 => (if v2 = (4 : Int32) then gX12_text_162 S (p0) M else zrc S (p0) 12 66 ((gX12_line S (p0) M).bind (fun M3 => (gX12_text_140 S   n) (p0) M3)))) else gX12_text_162 S (p0) M))
set_option maxHeartbeats 4000000 in
set_option maxRecDepth 100000 in
theorem t_X12_text_140 (w : zWd) (hz : zSZ w) (S : List (Nat × Nat)) (fu : Nat) : ∀ (p0 : Nat) (M : zM), AJ (zfIM S) w 793 mX12_text 140 [(0, .ref (p0))] [] (S, M) (gX12_text_140 S fu p0 M) := by
  induction fu with
  | zero => intro p0 M; exact AJ.none
  | succ n ih =>
    intro p0 M
    unfold gX12_text_140
    refine aj_aload_n (0) dX12_text_140 rfl rfl ?_
    refine r_getI (TX := TX12) zc12 (by decide) rfl (Or.inl zg_1374) dX12_text_141 (fun v1 => ?_)
    refine aj_if_ne (tgt := 162) dX12_text_144 (by decide) (fun h => ?_) (fun h => ?_)
    · refine AJ.sub [0] rfl ?_
      exact t_X12_text_162 w hz S (p0) M
    refine aj_aload_n (0) dX12_text_147 rfl rfl ?_
    refine r_getI (TX := TX12) zc12 (by decide) rfl (Or.inl zg_1372) dX12_text_148 (fun v2 => ?_)
    refine aj_iconst (v := (4 : Int32)) dX12_text_151 (by decide) ?_
    refine aj_icmp_eq (tgt := 162) dX12_text_152 (by decide) (fun h => ?_) (fun h => ?_)
    · refine AJ.sub [0] rfl ?_
      exact t_X12_text_162 w hz S (p0) M
    refine aj_aload_n (0) dX12_text_155 rfl rfl ?_
    refine rV_VM (as := []) (c_X12_line w hz S _ _) mv_X12_line rfl zg_1596 (by decide) (Nat.le_of_ble_eq_true rfl) dX12_text_156 (fun M3 => ?_)
    refine aj_goto (tgt := 140) dX12_text_159 (by decide) ?_
    refine AJ.sub [0] rfl ?_
    exact ih (p0) M3
def gX12_text_90 (S : List (Nat × Nat)) : Nat → Nat → Int32 → zM → Option (Int32 × zM)
  | 0 => fun _ _ _ => none
  | n + 1 => fun p0 x2 M => (if (6 : Int32) ≤ x2 then zpI S M (p0) 12 66 17 ((0 : Int32)) (fun M1 => zpI S M1 (p0) 12 66 18 ((0 : Int32)) (fun M2 => zpI S M2 (p0) 12 66 28 ((0 : Int32)) (fun M3 => zpI S M3 (p0) 12 66 29 ((0 : Int32)) (fun M4 => zrc S (p0) 12 66 ((gX12_token S (p0) M4).bind (fun M5 => gX12_text_140 S zfu (p0) M5)))))) else zgR S M (p0) 12 66 13 (fun r6 => zbI S M (r6) (x2) ((0 : Int32)) (fun M7 => zgR S M7 (p0) 12 66 14 (fun r8 => zbI S M7 (r8) (x2) ((0 : Int32)) (fun M9 => (gX12_text_90 S   n) (p0) ((x2 + (1 : Int32))) M9)))))
set_option maxHeartbeats 4000000 in
set_option maxRecDepth 100000 in
theorem t_X12_text_90 (w : zWd) (hz : zSZ w) (S : List (Nat × Nat)) (fu : Nat) : ∀ (p0 : Nat) (x2 : Int32) (M : zM), AJ (zfIM S) w 793 mX12_text 90 [(0, .ref (p0)), (2, .int (x2))] [] (S, M) (gX12_text_90 S fu p0 x2 M) := by
  induction fu with
  | zero => intro p0 x2 M; exact AJ.none
  | succ n ih =>
    intro p0 x2 M
    unfold gX12_text_90
    refine aj_iload_n (1) dX12_text_90 rfl rfl ?_
    refine aj_bipush (v := (6 : Int32)) dX12_text_91 (by decide) ?_
    refine aj_icmp_ge (tgt := 116) dX12_text_93 (by decide) (fun h => ?_) (fun h => ?_)
    · refine aj_aload_n (0) dX12_text_116 rfl rfl ?_
      refine aj_iconst (v := (0 : Int32)) dX12_text_117 (by decide) ?_
      refine r_putI (TX := TX12) zc12 (by decide) rfl rfl rfl rfl (Or.inl zg_1367) dX12_text_118 (fun M1 => ?_)
      refine aj_aload_n (0) dX12_text_121 rfl rfl ?_
      refine aj_iconst (v := (0 : Int32)) dX12_text_122 (by decide) ?_
      refine r_putI (TX := TX12) zc12 (by decide) rfl rfl rfl rfl (Or.inl zg_1368) dX12_text_123 (fun M2 => ?_)
      refine aj_aload_n (0) dX12_text_126 rfl rfl ?_
      refine aj_iconst (v := (0 : Int32)) dX12_text_127 (by decide) ?_
      refine r_putI (TX := TX12) zc12 (by decide) rfl rfl rfl rfl (Or.inl zg_1378) dX12_text_128 (fun M3 => ?_)
      refine aj_aload_n (0) dX12_text_131 rfl rfl ?_
      refine aj_iconst (v := (0 : Int32)) dX12_text_132 (by decide) ?_
      refine r_putI (TX := TX12) zc12 (by decide) rfl rfl rfl rfl (Or.inl zg_1379) dX12_text_133 (fun M4 => ?_)
      refine aj_aload_n (0) dX12_text_136 rfl rfl ?_
      refine rV_VM (as := []) (c_X12_token w hz S _ _) mv_X12_token rfl zg_1566 (by decide) (Nat.le_of_ble_eq_true rfl) dX12_text_137 (fun M5 => ?_)
      refine AJ.sub [0] rfl ?_
      exact t_X12_text_140 w hz S zfu (p0) M5
    refine aj_aload_n (0) dX12_text_96 rfl rfl ?_
    refine aj_getR (TX := TX12) zc12 (by decide) rfl (Or.inl zg_1363) dX12_text_97 (fun r6 => ?_)
    refine aj_iload_n (1) dX12_text_100 rfl rfl ?_
    refine aj_iconst (v := (0 : Int32)) dX12_text_101 (by decide) ?_
    refine r_iast dX12_text_102 (fun M7 => ?_)
    refine aj_aload_n (0) dX12_text_103 rfl rfl ?_
    refine aj_getR (TX := TX12) zc12 (by decide) rfl (Or.inl zg_1364) dX12_text_104 (fun r8 => ?_)
    refine aj_iload_n (1) dX12_text_107 rfl rfl ?_
    refine aj_iconst (v := (0 : Int32)) dX12_text_108 (by decide) ?_
    refine r_iast dX12_text_109 (fun M9 => ?_)
    refine aj_iinc (j := 1) (v := (x2 + (1 : Int32))) (ls2 := [(2, .int ((x2 + (1 : Int32)))), (0, .ref (p0))]) dX12_text_110 rfl rfl (Nat.le_of_ble_eq_true rfl) rfl ?_
    refine aj_goto (tgt := 90) dX12_text_113 (by decide) ?_
    refine AJ.sub [1, 0] rfl ?_
    exact ih (p0) ((x2 + (1 : Int32))) M9
def gX12_text_68 (S : List (Nat × Nat)) : Nat → Nat → Int32 → zM → Option (Int32 × zM)
  | 0 => fun _ _ _ => none
  | n + 1 => fun p0 x2 M => (if (200 : Int32) ≤ x2 then gX12_text_90 S zfu (p0) ((3 : Int32)) M else zgR S M (p0) 12 66 8 (fun r1 => zbI S M (r1) (x2) ((-1 : Int32)) (fun M2 => (gX12_text_68 S   n) (p0) ((x2 + (1 : Int32))) M2)))
set_option maxHeartbeats 4000000 in
set_option maxRecDepth 100000 in
theorem t_X12_text_68 (w : zWd) (hz : zSZ w) (S : List (Nat × Nat)) (fu : Nat) : ∀ (p0 : Nat) (x2 : Int32) (M : zM), AJ (zfIM S) w 793 mX12_text 68 [(0, .ref (p0)), (2, .int (x2))] [] (S, M) (gX12_text_68 S fu p0 x2 M) := by
  induction fu with
  | zero => intro p0 x2 M; exact AJ.none
  | succ n ih =>
    intro p0 x2 M
    unfold gX12_text_68
    refine aj_iload_n (1) dX12_text_68 rfl rfl ?_
    refine aj_sipush (v := (200 : Int32)) dX12_text_69 (by decide) ?_
    refine aj_icmp_ge (tgt := 88) dX12_text_72 (by decide) (fun h => ?_) (fun h => ?_)
    · refine aj_iconst (v := (3 : Int32)) dX12_text_88 (by decide) ?_
      refine aj_istore_n (ls2 := [(2, .int ((3 : Int32))), (0, .ref (p0))]) dX12_text_89 rfl (Nat.le_of_ble_eq_true rfl) rfl ?_
      refine AJ.sub [1, 0] rfl ?_
      exact t_X12_text_90 w hz S zfu (p0) ((3 : Int32)) M
    refine aj_aload_n (0) dX12_text_75 rfl rfl ?_
    refine aj_getR (TX := TX12) zc12 (by decide) rfl (Or.inl zg_1358) dX12_text_76 (fun r1 => ?_)
    refine aj_iload_n (1) dX12_text_79 rfl rfl ?_
    refine aj_iconst (v := (-1 : Int32)) dX12_text_80 (by decide) ?_
    refine r_iast dX12_text_81 (fun M2 => ?_)
    refine aj_iinc (j := 1) (v := (x2 + (1 : Int32))) (ls2 := [(2, .int ((x2 + (1 : Int32)))), (0, .ref (p0))]) dX12_text_82 rfl rfl (Nat.le_of_ble_eq_true rfl) rfl ?_
    refine aj_goto (tgt := 68) dX12_text_85 (by decide) ?_
    refine AJ.sub [1, 0] rfl ?_
    exact ih (p0) ((x2 + (1 : Int32))) M2
def gX12_text_47 (S : List (Nat × Nat)) : Nat → Nat → Int32 → zM → Option (Int32 × zM)
  | 0 => fun _ _ _ => none
  | n + 1 => fun p0 x2 M => (if (7 : Int32) ≤ x2 then gX12_text_68 S zfu (p0) ((100 : Int32)) M else zrc S (p0) 12 66 ((gX12_reads S (p0) (x2) ((0 : Int32)) M).bind (fun M1 => (gX12_text_47 S   n) (p0) ((x2 + (1 : Int32))) M1)))
set_option maxHeartbeats 4000000 in
set_option maxRecDepth 100000 in
theorem t_X12_text_47 (w : zWd) (hz : zSZ w) (S : List (Nat × Nat)) (fu : Nat) : ∀ (p0 : Nat) (x2 : Int32) (M : zM), AJ (zfIM S) w 793 mX12_text 47 [(0, .ref (p0)), (2, .int (x2))] [] (S, M) (gX12_text_47 S fu p0 x2 M) := by
  induction fu with
  | zero => intro p0 x2 M; exact AJ.none
  | succ n ih =>
    intro p0 x2 M
    unfold gX12_text_47
    refine aj_iload_n (1) dX12_text_47 rfl rfl ?_
    refine aj_bipush (v := (7 : Int32)) dX12_text_48 (by decide) ?_
    refine aj_icmp_ge (tgt := 65) dX12_text_50 (by decide) (fun h => ?_) (fun h => ?_)
    · refine aj_bipush (v := (100 : Int32)) dX12_text_65 (by decide) ?_
      refine aj_istore_n (ls2 := [(2, .int ((100 : Int32))), (0, .ref (p0))]) dX12_text_67 rfl (Nat.le_of_ble_eq_true rfl) rfl ?_
      refine AJ.sub [1, 0] rfl ?_
      exact t_X12_text_68 w hz S zfu (p0) ((100 : Int32)) M
    refine aj_aload_n (0) dX12_text_53 rfl rfl ?_
    refine aj_iload_n (1) dX12_text_54 rfl rfl ?_
    refine aj_iconst (v := (0 : Int32)) dX12_text_55 (by decide) ?_
    refine rV_VM (as := [.int (x2), .int ((0 : Int32))]) (c_X12_reads w S _ _ _ _) mv_X12_reads rfl zg_1562 (by decide) (Nat.le_of_ble_eq_true rfl) dX12_text_56 (fun M1 => ?_)
    refine aj_iinc (j := 1) (v := (x2 + (1 : Int32))) (ls2 := [(2, .int ((x2 + (1 : Int32)))), (0, .ref (p0))]) dX12_text_59 rfl rfl (Nat.le_of_ble_eq_true rfl) rfl ?_
    refine aj_goto (tgt := 47) dX12_text_62 (by decide) ?_
    refine AJ.sub [1, 0] rfl ?_
    exact ih (p0) ((x2 + (1 : Int32))) M1
def gX12_text (S : List (Nat × Nat)) (p0 : Nat) (x1 : Int32) (M : zM) : Option (Int32 × zM) := zpI S M (p0) 12 66 0 ((0 : Int32)) (fun M1 => (if x1 < 0 then some ((-2 : Int32), M1) else zgI S M1 (p0) 12 66 2 (fun v2 => (if x1 ≤ v2 then zpI S M1 (p0) 12 66 19 (x1) (fun M3 => zpI S M3 (p0) 12 66 2 ((0 : Int32)) (fun M4 => zpI S M4 (p0) 12 66 20 ((0 : Int32)) (fun M5 => zpI S M5 (p0) 12 66 24 ((0 : Int32)) (fun M6 => zpI S M6 (p0) 12 66 25 ((-1 : Int32)) (fun M7 => gX12_text_47 S zfu (p0) ((0 : Int32)) M7))))) else some ((-2 : Int32), M1)))))
set_option maxHeartbeats 4000000 in
set_option maxRecDepth 100000 in
theorem c_X12_text (w : zWd) (hz : zSZ w) (S : List (Nat × Nat)) (p0 : Nat) (x1 : Int32) (M : zM) : CT (zfIM S) w 793 mX12_text [.ref (p0), .int (x1)] (S, M) (gX12_text S p0 x1 M) := by
  refine CT.of (by decide) (Nat.le_of_ble_eq_true rfl) ?_
  show AJ _ _ _ _ 0 [(0, .ref (p0)), (1, .int (x1))] [] _ _
  unfold gX12_text
  refine aj_aload_n (0) dX12_text_0 rfl rfl ?_
  refine aj_iconst (v := (0 : Int32)) dX12_text_1 (by decide) ?_
  refine r_putI (TX := TX12) zc12 (by decide) rfl rfl rfl rfl (Or.inl zg_1350) dX12_text_2 (fun M1 => ?_)
  refine aj_iload_n (1) dX12_text_5 rfl rfl ?_
  refine aj_if_lt (tgt := 17) dX12_text_6 (by decide) (fun h => ?_) (fun h => ?_)
  · refine aj_bipush (v := (-2 : Int32)) dX12_text_17 (by decide) ?_
    exact aj_iret dX12_text_19 rfl rfl rfl
  refine aj_iload_n (1) dX12_text_9 rfl rfl ?_
  refine aj_aload_n (0) dX12_text_10 rfl rfl ?_
  refine r_getI (TX := TX12) zc12 (by decide) rfl (Or.inl zg_1352) dX12_text_11 (fun v2 => ?_)
  refine aj_icmp_le (tgt := 20) dX12_text_14 (by decide) (fun h => ?_) (fun h => ?_)
  · refine aj_aload_n (0) dX12_text_20 rfl rfl ?_
    refine aj_iload_n (1) dX12_text_21 rfl rfl ?_
    refine r_putI (TX := TX12) zc12 (by decide) rfl rfl rfl rfl (Or.inl zg_1369) dX12_text_22 (fun M3 => ?_)
    refine aj_aload_n (0) dX12_text_25 rfl rfl ?_
    refine aj_iconst (v := (0 : Int32)) dX12_text_26 (by decide) ?_
    refine r_putI (TX := TX12) zc12 (by decide) rfl rfl rfl rfl (Or.inl zg_1352) dX12_text_27 (fun M4 => ?_)
    refine aj_aload_n (0) dX12_text_30 rfl rfl ?_
    refine aj_iconst (v := (0 : Int32)) dX12_text_31 (by decide) ?_
    refine r_putI (TX := TX12) zc12 (by decide) rfl rfl rfl rfl (Or.inl zg_1370) dX12_text_32 (fun M5 => ?_)
    refine aj_aload_n (0) dX12_text_35 rfl rfl ?_
    refine aj_iconst (v := (0 : Int32)) dX12_text_36 (by decide) ?_
    refine r_putI (TX := TX12) zc12 (by decide) rfl rfl rfl rfl (Or.inl zg_1374) dX12_text_37 (fun M6 => ?_)
    refine aj_aload_n (0) dX12_text_40 rfl rfl ?_
    refine aj_iconst (v := (-1 : Int32)) dX12_text_41 (by decide) ?_
    refine r_putI (TX := TX12) zc12 (by decide) rfl rfl rfl rfl (Or.inl zg_1375) dX12_text_42 (fun M7 => ?_)
    refine aj_iconst (v := (0 : Int32)) dX12_text_45 (by decide) ?_
    refine aj_istore_n (ls2 := [(2, .int ((0 : Int32))), (0, .ref (p0)), (1, .int (x1))]) dX12_text_46 rfl (Nat.le_of_ble_eq_true rfl) rfl ?_
    refine AJ.sub [1, 0] rfl ?_
    exact t_X12_text_47 w hz S zfu (p0) ((0 : Int32)) M7
  refine aj_bipush (v := (-2 : Int32)) dX12_text_17 (by decide) ?_
  exact aj_iret dX12_text_19 rfl rfl rfl
def gX12_fault (S : List (Nat × Nat)) (p0 : Nat) (x1 : Int32) (M : zM) : Option (Int32 × zM) := zpI S M (p0) 12 66 0 ((0 : Int32)) (fun M1 => (if x1 = 0 then zgI S M1 (p0) 12 66 26 (fun v3 => some (v3, M1)) else (if x1 = (1 : Int32) then zgI S M1 (p0) 12 66 27 (fun v2 => some (v2, M1)) else some ((-1 : Int32), M1))))
set_option maxHeartbeats 4000000 in
set_option maxRecDepth 100000 in
theorem c_X12_fault (w : zWd) (S : List (Nat × Nat)) (p0 : Nat) (x1 : Int32) (M : zM) : CT (zfIM S) w 1 mX12_fault [.ref (p0), .int (x1)] (S, M) (gX12_fault S p0 x1 M) := by
  refine CT.of (by decide) (Nat.le_of_ble_eq_true rfl) ?_
  show AJ _ _ _ _ 0 [(0, .ref (p0)), (1, .int (x1))] [] _ _
  unfold gX12_fault
  refine aj_aload_n (0) dX12_fault_0 rfl rfl ?_
  refine aj_iconst (v := (0 : Int32)) dX12_fault_1 (by decide) ?_
  refine r_putI (TX := TX12) zc12 (by decide) rfl rfl rfl rfl (Or.inl zg_1350) dX12_fault_2 (fun M1 => ?_)
  refine aj_iload_n (1) dX12_fault_5 rfl rfl ?_
  refine aj_if_ne (tgt := 16) dX12_fault_6 (by decide) (fun h => ?_) (fun h => ?_)
  · refine aj_iload_n (1) dX12_fault_16 rfl rfl ?_
    refine aj_iconst (v := (1 : Int32)) dX12_fault_17 (by decide) ?_
    refine aj_icmp_ne (tgt := 28) dX12_fault_18 (by decide) (fun h => ?_) (fun h => ?_)
    · refine aj_iconst (v := (-1 : Int32)) dX12_fault_28 (by decide) ?_
      exact aj_iret dX12_fault_29 rfl rfl rfl
    refine aj_aload_n (0) dX12_fault_21 rfl rfl ?_
    refine r_getI (TX := TX12) zc12 (by decide) rfl (Or.inl zg_1377) dX12_fault_22 (fun v2 => ?_)
    refine aj_goto (tgt := 29) dX12_fault_25 (by decide) ?_
    exact aj_iret dX12_fault_29 rfl rfl rfl
  refine aj_aload_n (0) dX12_fault_9 rfl rfl ?_
  refine r_getI (TX := TX12) zc12 (by decide) rfl (Or.inl zg_1376) dX12_fault_10 (fun v3 => ?_)
  refine aj_goto (tgt := 29) dX12_fault_13 (by decide) ?_
  exact aj_iret dX12_fault_29 rfl rfl rfl
def gX12_named (S : List (Nat × Nat)) (p0 : Nat) (x1 : Int32) (x2 : Int32) (M : zM) : Option (Int32 × zM) := zpI S M (p0) 12 66 0 ((0 : Int32)) (fun M1 => (if x1 = 0 then zgR S M1 (p0) 12 66 4 (fun r6 => zgR S M1 (p0) 12 66 3 (fun r7 => zaI S M1 100 (r7) ((0 : Int32)) (fun v8 => (gX12_found S (r6) ((0 : Int32)) (v8) (x2) M1).bind (fun v9 => some (v9, M1))))) else (if x1 = (1 : Int32) then zgR S M1 (p0) 12 66 9 (fun r2 => zgR S M1 (p0) 12 66 3 (fun r3 => zaI S M1 100 (r3) ((3 : Int32)) (fun v4 => (gX12_found S (r2) ((0 : Int32)) (v4) (x2) M1).bind (fun v5 => some (v5, M1))))) else some ((-1 : Int32), M1))))
set_option maxHeartbeats 4000000 in
set_option maxRecDepth 100000 in
theorem c_X12_named (w : zWd) (S : List (Nat × Nat)) (p0 : Nat) (x1 : Int32) (x2 : Int32) (M : zM) : CT (zfIM S) w 2 mX12_named [.ref (p0), .int (x1), .int (x2)] (S, M) (gX12_named S p0 x1 x2 M) := by
  refine CT.of (by decide) (Nat.le_of_ble_eq_true rfl) ?_
  show AJ _ _ _ _ 0 [(0, .ref (p0)), (1, .int (x1)), (2, .int (x2))] [] _ _
  unfold gX12_named
  refine aj_aload_n (0) dX12_named_0 rfl rfl ?_
  refine aj_iconst (v := (0 : Int32)) dX12_named_1 (by decide) ?_
  refine r_putI (TX := TX12) zc12 (by decide) rfl rfl rfl rfl (Or.inl zg_1350) dX12_named_2 (fun M1 => ?_)
  refine aj_iload_n (1) dX12_named_5 rfl rfl ?_
  refine aj_if_ne (tgt := 27) dX12_named_6 (by decide) (fun h => ?_) (fun h => ?_)
  · refine aj_iload_n (1) dX12_named_27 rfl rfl ?_
    refine aj_iconst (v := (1 : Int32)) dX12_named_28 (by decide) ?_
    refine aj_icmp_ne (tgt := 50) dX12_named_29 (by decide) (fun h => ?_) (fun h => ?_)
    · refine aj_iconst (v := (-1 : Int32)) dX12_named_50 (by decide) ?_
      exact aj_iret dX12_named_51 rfl rfl rfl
    refine aj_aload_n (0) dX12_named_32 rfl rfl ?_
    refine aj_getR (TX := TX12) zc12 (by decide) rfl (Or.inl zg_1359) dX12_named_33 (fun r2 => ?_)
    refine aj_iconst (v := (0 : Int32)) dX12_named_36 (by decide) ?_
    refine aj_aload_n (0) dX12_named_37 rfl rfl ?_
    refine aj_getR (TX := TX12) zc12 (by decide) rfl (Or.inl zg_1353) dX12_named_38 (fun r3 => ?_)
    refine aj_iconst (v := (3 : Int32)) dX12_named_41 (by decide) ?_
    refine r_iald dX12_named_42 (fun v4 => ?_)
    refine aj_iload_n (2) dX12_named_43 rfl rfl ?_
    refine rS_I (as := [.ref (r2), .int ((0 : Int32)), .int (v4), .int (x2)]) (c_X12_found w S _ _ _ _ _) ms_X12_found rfl zg_1616 (by decide) (Nat.le_of_ble_eq_true rfl) dX12_named_44 (fun v5 => ?_)
    refine aj_goto (tgt := 51) dX12_named_47 (by decide) ?_
    exact aj_iret dX12_named_51 rfl rfl rfl
  refine aj_aload_n (0) dX12_named_9 rfl rfl ?_
  refine aj_getR (TX := TX12) zc12 (by decide) rfl (Or.inl zg_1354) dX12_named_10 (fun r6 => ?_)
  refine aj_iconst (v := (0 : Int32)) dX12_named_13 (by decide) ?_
  refine aj_aload_n (0) dX12_named_14 rfl rfl ?_
  refine aj_getR (TX := TX12) zc12 (by decide) rfl (Or.inl zg_1353) dX12_named_15 (fun r7 => ?_)
  refine aj_iconst (v := (0 : Int32)) dX12_named_18 (by decide) ?_
  refine r_iald dX12_named_19 (fun v8 => ?_)
  refine aj_iload_n (2) dX12_named_20 rfl rfl ?_
  refine rS_I (as := [.ref (r6), .int ((0 : Int32)), .int (v8), .int (x2)]) (c_X12_found w S _ _ _ _ _) ms_X12_found rfl zg_1616 (by decide) (Nat.le_of_ble_eq_true rfl) dX12_named_21 (fun v9 => ?_)
  refine aj_goto (tgt := 51) dX12_named_24 (by decide) ?_
  exact aj_iret dX12_named_51 rfl rfl rfl
def gX12_is (S : List (Nat × Nat)) (x0 : Int32) (M : zM) : Option Int64 := (if x0 = 0 then some ((0 : Int64)) else some ((1 : Int64)))
set_option maxHeartbeats 4000000 in
set_option maxRecDepth 100000 in
theorem c_X12_is (w : zWd) (S : List (Nat × Nat)) (x0 : Int32) (M : zM) : CT (zfJ S M) w 1 mX12_is [.int (x0)] (S, M) (gX12_is S x0 M) := by
  refine CT.of (by decide) (Nat.le_of_ble_eq_true rfl) ?_
  show AJ _ _ _ _ 0 [(0, .int (x0))] [] _ _
  unfold gX12_is
  refine aj_iload_n (0) dX12_is_0 rfl rfl ?_
  refine aj_if_eq (tgt := 8) dX12_is_1 (by decide) (fun h => ?_) (fun h => ?_)
  · refine aj_lconst (v := (0 : Int64)) dX12_is_8 (by decide) ?_
    exact aj_lret dX12_is_9 rfl rfl
  refine aj_lconst (v := (1 : Int64)) dX12_is_4 (by decide) ?_
  refine aj_goto (tgt := 9) dX12_is_5 (by decide) ?_
  exact aj_lret dX12_is_9 rfl rfl
def gX12_works_407 (S : List (Nat × Nat)) (p0 : Nat) (l6 : Int64) (M : zM) : Option (Int32 × zM) := zgR S M (p0) 12 66 31 (fun r1 => zgI S M (p0) 12 66 32 (fun v2 => zbL S M (r1) ((v2 - (1 : Int32))) (l6) (fun M3 => (if 0 < (lg_cmp l6 (1000000000000 : Int64)) then some ((0 : Int32), M3) else (if (lg_cmp l6 (-1000000000000 : Int64)) < 0 then some ((0 : Int32), M3) else some ((1 : Int32), M3))))))
set_option maxHeartbeats 4000000 in
set_option maxRecDepth 100000 in
theorem t_X12_works_407 (w : zWd) (S : List (Nat × Nat)) (p0 : Nat) (l6 : Int64) (M : zM) : AJ (zfIM S) w 2 mX12_works 407 [(0, .ref (p0)), (6, .long (l6))] [] (S, M) (gX12_works_407 S p0 l6 M) := by
  unfold gX12_works_407
  refine aj_aload_n (0) dX12_works_407 rfl rfl ?_
  refine aj_getR (TX := TX12) zc12 (by decide) rfl (Or.inl zg_1381) dX12_works_408 (fun r1 => ?_)
  refine aj_aload_n (0) dX12_works_411 rfl rfl ?_
  refine r_getI (TX := TX12) zc12 (by decide) rfl (Or.inl zg_1382) dX12_works_412 (fun v2 => ?_)
  refine aj_iconst (v := (1 : Int32)) dX12_works_415 (by decide) ?_
  refine aj_isub dX12_works_416 ?_
  refine aj_lload (1) dX12_works_417 rfl ?_
  refine r_last dX12_works_419 (fun M3 => ?_)
  refine aj_lload (1) dX12_works_420 rfl ?_
  refine aj_ldc2 (v := (1000000000000 : Int64)) dX12_works_422 zg_1755 ?_
  refine aj_lcmp dX12_works_425 ?_
  refine aj_if_gt (tgt := 442) dX12_works_426 (by decide) (fun h => ?_) (fun h => ?_)
  · refine aj_iconst (v := (0 : Int32)) dX12_works_442 (by decide) ?_
    exact aj_iret dX12_works_443 rfl (by decide +kernel) rfl
  refine aj_lload (1) dX12_works_429 rfl ?_
  refine aj_ldc2 (v := (-1000000000000 : Int64)) dX12_works_431 zg_1756 ?_
  refine aj_lcmp dX12_works_434 ?_
  refine aj_if_lt (tgt := 442) dX12_works_435 (by decide) (fun h => ?_) (fun h => ?_)
  · refine aj_iconst (v := (0 : Int32)) dX12_works_442 (by decide) ?_
    exact aj_iret dX12_works_443 rfl (by decide +kernel) rfl
  refine aj_iconst (v := (1 : Int32)) dX12_works_438 (by decide) ?_
  refine aj_goto (tgt := 443) dX12_works_439 (by decide) ?_
  exact aj_iret dX12_works_443 rfl (by decide +kernel) rfl
def gX12_works (S : List (Nat × Nat)) (p0 : Nat) (x1 : Int32) (M : zM) : Option (Int32 × zM) := zgR S M (p0) 12 66 31 (fun r1 => zgI S M (p0) 12 66 32 (fun v2 => zaL S M (r1) ((v2 - (1 : Int32))) (fun w3 => (if x1 = (260 : Int32) then zgR S M (p0) 12 66 31 (fun r38 => zgI S M (p0) 12 66 32 (fun v39 => (if (lg_cmp w3 (0 : Int64)) = 0 then (gX12_is S ((1 : Int32)) M).bind (fun w42 => zbL S M (r38) ((v39 - (1 : Int32))) (w42) (fun M43 => some ((1 : Int32), M43))) else (gX12_is S ((0 : Int32)) M).bind (fun w40 => zbL S M (r38) ((v39 - (1 : Int32))) (w40) (fun M41 => some ((1 : Int32), M41)))))) else zgR S M (p0) 12 66 31 (fun r4 => zgI S M (p0) 12 66 32 (fun v5 => zaL S M (r4) ((v5 - (2 : Int32))) (fun w6 => zgI S M (p0) 12 66 32 (fun v7 => zpI S M (p0) 12 66 32 ((v7 - (1 : Int32))) (fun M8 => (if x1 = (42 : Int32) then (if (lg_cmp w6 (0 : Int64)) = 0 then gX12_works_407 S (p0) ((w6 * w3)) M8 else (if (if 0 < w6 then w6 else -w6) = 0 then none else (if (lg_cmp (if 0 < w3 then w3 else -w3) ((1000000000000 : Int64) / (if 0 < w6 then w6 else -w6))) ≤ 0 then gX12_works_407 S (p0) ((w6 * w3)) M8 else some ((0 : Int32), M8)))) else (if x1 = (43 : Int32) then gX12_works_407 S (p0) ((w6 + w3)) M8 else (if x1 = (45 : Int32) then gX12_works_407 S (p0) ((w6 - w3)) M8 else (if x1 = (47 : Int32) then (if (lg_cmp w3 (0 : Int64)) = 0 then some ((0 : Int32), M8) else (if w3 = 0 then none else gX12_works_407 S (p0) ((w6 / w3)) M8)) else (if x1 = (60 : Int32) then (if 0 ≤ (lg_cmp w6 w3) then (gX12_is S ((0 : Int32)) M8).bind (fun w14 => gX12_works_407 S (p0) (w14) M8) else (gX12_is S ((1 : Int32)) M8).bind (fun w15 => gX12_works_407 S (p0) (w15) M8)) else (if x1 = (61 : Int32) then (if (lg_cmp w6 w3) = 0 then (gX12_is S ((1 : Int32)) M8).bind (fun w18 => gX12_works_407 S (p0) (w18) M8) else (gX12_is S ((0 : Int32)) M8).bind (fun w17 => gX12_works_407 S (p0) (w17) M8)) else (if x1 = (62 : Int32) then (if (lg_cmp w6 w3) ≤ 0 then (gX12_is S ((0 : Int32)) M8).bind (fun w20 => gX12_works_407 S (p0) (w20) M8) else (gX12_is S ((1 : Int32)) M8).bind (fun w21 => gX12_works_407 S (p0) (w21) M8)) else (if x1 = (256 : Int32) then (if 0 < (lg_cmp w6 w3) then (gX12_is S ((0 : Int32)) M8).bind (fun w23 => gX12_works_407 S (p0) (w23) M8) else (gX12_is S ((1 : Int32)) M8).bind (fun w24 => gX12_works_407 S (p0) (w24) M8)) else (if x1 = (257 : Int32) then (if (lg_cmp w6 w3) = 0 then (gX12_is S ((0 : Int32)) M8).bind (fun w26 => gX12_works_407 S (p0) (w26) M8) else (gX12_is S ((1 : Int32)) M8).bind (fun w27 => gX12_works_407 S (p0) (w27) M8)) else (if x1 = (258 : Int32) then (if (lg_cmp w6 w3) < 0 then (gX12_is S ((0 : Int32)) M8).bind (fun w29 => gX12_works_407 S (p0) (w29) M8) else (gX12_is S ((1 : Int32)) M8).bind (fun w30 => gX12_works_407 S (p0) (w30) M8)) else (if x1 = (261 : Int32) then (if (lg_cmp w6 (0 : Int64)) = 0 then (gX12_is S ((0 : Int32)) M8).bind (fun w32 => gX12_works_407 S (p0) (w32) M8) else (if (lg_cmp w3 (0 : Int64)) = 0 then (gX12_is S ((0 : Int32)) M8).bind (fun w33 => gX12_works_407 S (p0) (w33) M8) else (gX12_is S ((1 : Int32)) M8).bind (fun w34 => gX12_works_407 S (p0) (w34) M8))) else (if (lg_cmp w6 (0 : Int64)) = 0 then (if (lg_cmp w3 (0 : Int64)) = 0 then (gX12_is S ((0 : Int32)) M8).bind (fun w36 => gX12_works_407 S (p0) (w36) M8) else (gX12_is S ((1 : Int32)) M8).bind (fun w37 => gX12_works_407 S (p0) (w37) M8)) else (gX12_is S ((1 : Int32)) M8).bind (fun w35 => gX12_works_407 S (p0) (w35) M8))))))))))))))))))))))
set_option maxHeartbeats 4000000 in
set_option maxRecDepth 100000 in
theorem c_X12_works (w : zWd) (S : List (Nat × Nat)) (p0 : Nat) (x1 : Int32) (M : zM) : CT (zfIM S) w 2 mX12_works [.ref (p0), .int (x1)] (S, M) (gX12_works S p0 x1 M) := by
  refine CT.of (by decide) (Nat.le_of_ble_eq_true rfl) ?_
  show AJ _ _ _ _ 0 [(0, .ref (p0)), (1, .int (x1))] [] _ _
  unfold gX12_works
  refine aj_aload_n (0) dX12_works_0 rfl rfl ?_
  refine aj_getR (TX := TX12) zc12 (by decide) rfl (Or.inl zg_1381) dX12_works_1 (fun r1 => ?_)
  refine aj_aload_n (0) dX12_works_4 rfl rfl ?_
  refine r_getI (TX := TX12) zc12 (by decide) rfl (Or.inl zg_1382) dX12_works_5 (fun v2 => ?_)
  refine aj_iconst (v := (1 : Int32)) dX12_works_8 (by decide) ?_
  refine aj_isub dX12_works_9 ?_
  refine r_lald dX12_works_10 (fun w3 => ?_)
  refine aj_lstore_n (ls2 := [(2, .long (w3)), (0, .ref (p0)), (1, .int (x1))]) dX12_works_11 rfl (Nat.le_of_ble_eq_true rfl) rfl ?_
  refine aj_iload_n (2) dX12_works_12 rfl rfl ?_
  refine aj_sipush (v := (260 : Int32)) dX12_works_13 (by decide) ?_
  refine aj_icmp_ne (tgt := 46) dX12_works_16 (by decide) (fun h => ?_) (fun h => ?_)
  · refine aj_aload_n (1) dX12_works_46 rfl rfl ?_
    refine aj_getR (TX := TX12) zc12 (by decide) rfl (Or.inl zg_1381) dX12_works_47 (fun r4 => ?_)
    refine aj_aload_n (1) dX12_works_50 rfl rfl ?_
    refine r_getI (TX := TX12) zc12 (by decide) rfl (Or.inl zg_1382) dX12_works_51 (fun v5 => ?_)
    refine aj_iconst (v := (2 : Int32)) dX12_works_54 (by decide) ?_
    refine aj_isub dX12_works_55 ?_
    refine r_lald dX12_works_56 (fun w6 => ?_)
    refine aj_lstore (ls2 := [(4, .long (w6)), (2, .long (w3)), (0, .ref (p0)), (1, .int (x1))]) dX12_works_57 (Nat.le_of_ble_eq_true rfl) rfl ?_
    refine aj_aload_n (2) dX12_works_59 rfl rfl ?_
    refine aj_dup dX12_works_60 rfl ?_
    refine r_getI (TX := TX12) zc12 (by decide) rfl (Or.inl zg_1382) dX12_works_61 (fun v7 => ?_)
    refine aj_iconst (v := (1 : Int32)) dX12_works_64 (by decide) ?_
    refine aj_isub dX12_works_65 ?_
    refine r_putI (TX := TX12) zc12 (by decide) rfl rfl rfl rfl (Or.inl zg_1382) dX12_works_66 (fun M8 => ?_)
    refine aj_iload_n (3) dX12_works_69 rfl rfl ?_
    refine aj_ite (fun h => ?_) (fun h9 => ?_)
    · have h9 : x1 = (42 : Int32) := h
      refine aj_lsw (tgt := 186) (off := 116) dX12_works_70 (by decide) (by rw [h9]; decide +kernel) (by decide) ?_
      refine aj_lload (0) dX12_works_186 rfl ?_
      refine aj_lconst (v := (0 : Int64)) dX12_works_188 (by decide) ?_
      refine aj_lcmp dX12_works_189 ?_
      refine aj_if_eq (tgt := 212) dX12_works_190 (by decide) (fun h => ?_) (fun h => ?_)
      · refine aj_lload (0) dX12_works_212 rfl ?_
        refine aj_lload_n (1) dX12_works_214 rfl rfl ?_
        refine aj_lmul dX12_works_215 ?_
        refine aj_lstore (ls2 := [(6, .long ((w6 * w3))), (4, .long (w6)), (2, .long (w3)), (0, .ref (p0)), (1, .int (x1))]) dX12_works_216 (Nat.le_of_ble_eq_true rfl) rfl ?_
        refine aj_goto (tgt := 407) dX12_works_218 (by decide) ?_
        refine AJ.sub [3, 0] rfl ?_
        exact t_X12_works_407 w S (p0) ((w6 * w3)) M8
      refine aj_lload_n (1) dX12_works_193 rfl rfl ?_
      refine aj_mabs_long zg_1754 zg_880 zg_3 zg_881 (by decide) (Nat.le_of_ble_eq_true rfl) dX12_works_194 ?_
      refine aj_ldc2 (v := (1000000000000 : Int64)) dX12_works_197 zg_1755 ?_
      refine aj_lload (0) dX12_works_200 rfl ?_
      refine aj_mabs_long zg_1754 zg_880 zg_3 zg_881 (by decide) (Nat.le_of_ble_eq_true rfl) dX12_works_202 ?_
      refine aj_ldiv dX12_works_205 ?_
      refine aj_lcmp dX12_works_206 ?_
      refine aj_if_le (tgt := 212) dX12_works_207 (by decide) (fun h => ?_) (fun h => ?_)
      · refine aj_lload (0) dX12_works_212 rfl ?_
        refine aj_lload_n (1) dX12_works_214 rfl rfl ?_
        refine aj_lmul dX12_works_215 ?_
        refine aj_lstore (ls2 := [(6, .long ((w6 * w3))), (4, .long (w6)), (2, .long (w3)), (0, .ref (p0)), (1, .int (x1))]) dX12_works_216 (Nat.le_of_ble_eq_true rfl) rfl ?_
        refine aj_goto (tgt := 407) dX12_works_218 (by decide) ?_
        refine AJ.sub [3, 0] rfl ?_
        exact t_X12_works_407 w S (p0) ((w6 * w3)) M8
      refine aj_iconst (v := (0 : Int32)) dX12_works_210 (by decide) ?_
      exact aj_iret dX12_works_211 rfl (by decide +kernel) rfl
    refine aj_ite (fun h => ?_) (fun h10 => ?_)
    · have h9 : x1 = (43 : Int32) := h
      refine aj_lsw (tgt := 168) (off := 98) dX12_works_70 (by decide) (by rw [h9]; decide +kernel) (by decide) ?_
      refine aj_lload (0) dX12_works_168 rfl ?_
      refine aj_lload_n (1) dX12_works_170 rfl rfl ?_
      refine aj_ladd dX12_works_171 ?_
      refine aj_lstore (ls2 := [(6, .long ((w6 + w3))), (4, .long (w6)), (2, .long (w3)), (0, .ref (p0)), (1, .int (x1))]) dX12_works_172 (Nat.le_of_ble_eq_true rfl) rfl ?_
      refine aj_goto (tgt := 407) dX12_works_174 (by decide) ?_
      refine AJ.sub [3, 0] rfl ?_
      exact t_X12_works_407 w S (p0) ((w6 + w3)) M8
    refine aj_ite (fun h => ?_) (fun h11 => ?_)
    · have h9 : x1 = (45 : Int32) := h
      refine aj_lsw (tgt := 177) (off := 107) dX12_works_70 (by decide) (by rw [h9]; decide +kernel) (by decide) ?_
      refine aj_lload (0) dX12_works_177 rfl ?_
      refine aj_lload_n (1) dX12_works_179 rfl rfl ?_
      refine aj_lsub dX12_works_180 ?_
      refine aj_lstore (ls2 := [(6, .long ((w6 - w3))), (4, .long (w6)), (2, .long (w3)), (0, .ref (p0)), (1, .int (x1))]) dX12_works_181 (Nat.le_of_ble_eq_true rfl) rfl ?_
      refine aj_goto (tgt := 407) dX12_works_183 (by decide) ?_
      refine AJ.sub [3, 0] rfl ?_
      exact t_X12_works_407 w S (p0) ((w6 - w3)) M8
    refine aj_ite (fun h => ?_) (fun h12 => ?_)
    · have h9 : x1 = (47 : Int32) := h
      refine aj_lsw (tgt := 221) (off := 151) dX12_works_70 (by decide) (by rw [h9]; decide +kernel) (by decide) ?_
      refine aj_lload_n (1) dX12_works_221 rfl rfl ?_
      refine aj_lconst (v := (0 : Int64)) dX12_works_222 (by decide) ?_
      refine aj_lcmp dX12_works_223 ?_
      refine aj_if_ne (tgt := 229) dX12_works_224 (by decide) (fun h => ?_) (fun h => ?_)
      · refine aj_lload (0) dX12_works_229 rfl ?_
        refine aj_lload_n (1) dX12_works_231 rfl rfl ?_
        refine aj_ldiv dX12_works_232 ?_
        refine aj_lstore (ls2 := [(6, .long ((w6 / w3))), (4, .long (w6)), (2, .long (w3)), (0, .ref (p0)), (1, .int (x1))]) dX12_works_233 (Nat.le_of_ble_eq_true rfl) rfl ?_
        refine aj_goto (tgt := 407) dX12_works_235 (by decide) ?_
        refine AJ.sub [3, 0] rfl ?_
        exact t_X12_works_407 w S (p0) ((w6 / w3)) M8
      refine aj_iconst (v := (0 : Int32)) dX12_works_227 (by decide) ?_
      exact aj_iret dX12_works_228 rfl (by decide +kernel) rfl
    refine aj_ite (fun h => ?_) (fun h13 => ?_)
    · have h9 : x1 = (60 : Int32) := h
      refine aj_lsw (tgt := 238) (off := 168) dX12_works_70 (by decide) (by rw [h9]; decide +kernel) (by decide) ?_
      refine aj_lload (0) dX12_works_238 rfl ?_
      refine aj_lload_n (1) dX12_works_240 rfl rfl ?_
      refine aj_lcmp dX12_works_241 ?_
      refine aj_if_ge (tgt := 249) dX12_works_242 (by decide) (fun h => ?_) (fun h => ?_)
      · refine aj_iconst (v := (0 : Int32)) dX12_works_249 (by decide) ?_
        refine rS_J (as := [.int ((0 : Int32))]) (c_X12_is w S _ _) ms_X12_is rfl zg_1751 (by decide) (Nat.le_of_ble_eq_true rfl) dX12_works_250 (fun w14 => ?_)
        refine aj_lstore (ls2 := [(6, .long (w14)), (4, .long (w6)), (2, .long (w3)), (0, .ref (p0)), (1, .int (x1))]) dX12_works_253 (Nat.le_of_ble_eq_true rfl) rfl ?_
        refine aj_goto (tgt := 407) dX12_works_255 (by decide) ?_
        refine AJ.sub [3, 0] rfl ?_
        exact t_X12_works_407 w S (p0) (w14) M8
      refine aj_iconst (v := (1 : Int32)) dX12_works_245 (by decide) ?_
      refine aj_goto (tgt := 250) dX12_works_246 (by decide) ?_
      refine rS_J (as := [.int ((1 : Int32))]) (c_X12_is w S _ _) ms_X12_is rfl zg_1751 (by decide) (Nat.le_of_ble_eq_true rfl) dX12_works_250 (fun w15 => ?_)
      refine aj_lstore (ls2 := [(6, .long (w15)), (4, .long (w6)), (2, .long (w3)), (0, .ref (p0)), (1, .int (x1))]) dX12_works_253 (Nat.le_of_ble_eq_true rfl) rfl ?_
      refine aj_goto (tgt := 407) dX12_works_255 (by decide) ?_
      refine AJ.sub [3, 0] rfl ?_
      exact t_X12_works_407 w S (p0) (w15) M8
    refine aj_ite (fun h => ?_) (fun h16 => ?_)
    · have h9 : x1 = (61 : Int32) := h
      refine aj_lsw (tgt := 278) (off := 208) dX12_works_70 (by decide) (by rw [h9]; decide +kernel) (by decide) ?_
      refine aj_lload (0) dX12_works_278 rfl ?_
      refine aj_lload_n (1) dX12_works_280 rfl rfl ?_
      refine aj_lcmp dX12_works_281 ?_
      refine aj_if_ne (tgt := 289) dX12_works_282 (by decide) (fun h => ?_) (fun h => ?_)
      · refine aj_iconst (v := (0 : Int32)) dX12_works_289 (by decide) ?_
        refine rS_J (as := [.int ((0 : Int32))]) (c_X12_is w S _ _) ms_X12_is rfl zg_1751 (by decide) (Nat.le_of_ble_eq_true rfl) dX12_works_290 (fun w17 => ?_)
        refine aj_lstore (ls2 := [(6, .long (w17)), (4, .long (w6)), (2, .long (w3)), (0, .ref (p0)), (1, .int (x1))]) dX12_works_293 (Nat.le_of_ble_eq_true rfl) rfl ?_
        refine aj_goto (tgt := 407) dX12_works_295 (by decide) ?_
        refine AJ.sub [3, 0] rfl ?_
        exact t_X12_works_407 w S (p0) (w17) M8
      refine aj_iconst (v := (1 : Int32)) dX12_works_285 (by decide) ?_
      refine aj_goto (tgt := 290) dX12_works_286 (by decide) ?_
      refine rS_J (as := [.int ((1 : Int32))]) (c_X12_is w S _ _) ms_X12_is rfl zg_1751 (by decide) (Nat.le_of_ble_eq_true rfl) dX12_works_290 (fun w18 => ?_)
      refine aj_lstore (ls2 := [(6, .long (w18)), (4, .long (w6)), (2, .long (w3)), (0, .ref (p0)), (1, .int (x1))]) dX12_works_293 (Nat.le_of_ble_eq_true rfl) rfl ?_
      refine aj_goto (tgt := 407) dX12_works_295 (by decide) ?_
      refine AJ.sub [3, 0] rfl ?_
      exact t_X12_works_407 w S (p0) (w18) M8
    refine aj_ite (fun h => ?_) (fun h19 => ?_)
    · have h9 : x1 = (62 : Int32) := h
      refine aj_lsw (tgt := 258) (off := 188) dX12_works_70 (by decide) (by rw [h9]; decide +kernel) (by decide) ?_
      refine aj_lload (0) dX12_works_258 rfl ?_
      refine aj_lload_n (1) dX12_works_260 rfl rfl ?_
      refine aj_lcmp dX12_works_261 ?_
      refine aj_if_le (tgt := 269) dX12_works_262 (by decide) (fun h => ?_) (fun h => ?_)
      · refine aj_iconst (v := (0 : Int32)) dX12_works_269 (by decide) ?_
        refine rS_J (as := [.int ((0 : Int32))]) (c_X12_is w S _ _) ms_X12_is rfl zg_1751 (by decide) (Nat.le_of_ble_eq_true rfl) dX12_works_270 (fun w20 => ?_)
        refine aj_lstore (ls2 := [(6, .long (w20)), (4, .long (w6)), (2, .long (w3)), (0, .ref (p0)), (1, .int (x1))]) dX12_works_273 (Nat.le_of_ble_eq_true rfl) rfl ?_
        refine aj_goto (tgt := 407) dX12_works_275 (by decide) ?_
        refine AJ.sub [3, 0] rfl ?_
        exact t_X12_works_407 w S (p0) (w20) M8
      refine aj_iconst (v := (1 : Int32)) dX12_works_265 (by decide) ?_
      refine aj_goto (tgt := 270) dX12_works_266 (by decide) ?_
      refine rS_J (as := [.int ((1 : Int32))]) (c_X12_is w S _ _) ms_X12_is rfl zg_1751 (by decide) (Nat.le_of_ble_eq_true rfl) dX12_works_270 (fun w21 => ?_)
      refine aj_lstore (ls2 := [(6, .long (w21)), (4, .long (w6)), (2, .long (w3)), (0, .ref (p0)), (1, .int (x1))]) dX12_works_273 (Nat.le_of_ble_eq_true rfl) rfl ?_
      refine aj_goto (tgt := 407) dX12_works_275 (by decide) ?_
      refine AJ.sub [3, 0] rfl ?_
      exact t_X12_works_407 w S (p0) (w21) M8
    refine aj_ite (fun h => ?_) (fun h22 => ?_)
    · have h9 : x1 = (256 : Int32) := h
      refine aj_lsw (tgt := 298) (off := 228) dX12_works_70 (by decide) (by rw [h9]; decide +kernel) (by decide) ?_
      refine aj_lload (0) dX12_works_298 rfl ?_
      refine aj_lload_n (1) dX12_works_300 rfl rfl ?_
      refine aj_lcmp dX12_works_301 ?_
      refine aj_if_gt (tgt := 309) dX12_works_302 (by decide) (fun h => ?_) (fun h => ?_)
      · refine aj_iconst (v := (0 : Int32)) dX12_works_309 (by decide) ?_
        refine rS_J (as := [.int ((0 : Int32))]) (c_X12_is w S _ _) ms_X12_is rfl zg_1751 (by decide) (Nat.le_of_ble_eq_true rfl) dX12_works_310 (fun w23 => ?_)
        refine aj_lstore (ls2 := [(6, .long (w23)), (4, .long (w6)), (2, .long (w3)), (0, .ref (p0)), (1, .int (x1))]) dX12_works_313 (Nat.le_of_ble_eq_true rfl) rfl ?_
        refine aj_goto (tgt := 407) dX12_works_315 (by decide) ?_
        refine AJ.sub [3, 0] rfl ?_
        exact t_X12_works_407 w S (p0) (w23) M8
      refine aj_iconst (v := (1 : Int32)) dX12_works_305 (by decide) ?_
      refine aj_goto (tgt := 310) dX12_works_306 (by decide) ?_
      refine rS_J (as := [.int ((1 : Int32))]) (c_X12_is w S _ _) ms_X12_is rfl zg_1751 (by decide) (Nat.le_of_ble_eq_true rfl) dX12_works_310 (fun w24 => ?_)
      refine aj_lstore (ls2 := [(6, .long (w24)), (4, .long (w6)), (2, .long (w3)), (0, .ref (p0)), (1, .int (x1))]) dX12_works_313 (Nat.le_of_ble_eq_true rfl) rfl ?_
      refine aj_goto (tgt := 407) dX12_works_315 (by decide) ?_
      refine AJ.sub [3, 0] rfl ?_
      exact t_X12_works_407 w S (p0) (w24) M8
    refine aj_ite (fun h => ?_) (fun h25 => ?_)
    · have h9 : x1 = (257 : Int32) := h
      refine aj_lsw (tgt := 338) (off := 268) dX12_works_70 (by decide) (by rw [h9]; decide +kernel) (by decide) ?_
      refine aj_lload (0) dX12_works_338 rfl ?_
      refine aj_lload_n (1) dX12_works_340 rfl rfl ?_
      refine aj_lcmp dX12_works_341 ?_
      refine aj_if_eq (tgt := 349) dX12_works_342 (by decide) (fun h => ?_) (fun h => ?_)
      · refine aj_iconst (v := (0 : Int32)) dX12_works_349 (by decide) ?_
        refine rS_J (as := [.int ((0 : Int32))]) (c_X12_is w S _ _) ms_X12_is rfl zg_1751 (by decide) (Nat.le_of_ble_eq_true rfl) dX12_works_350 (fun w26 => ?_)
        refine aj_lstore (ls2 := [(6, .long (w26)), (4, .long (w6)), (2, .long (w3)), (0, .ref (p0)), (1, .int (x1))]) dX12_works_353 (Nat.le_of_ble_eq_true rfl) rfl ?_
        refine aj_goto (tgt := 407) dX12_works_355 (by decide) ?_
        refine AJ.sub [3, 0] rfl ?_
        exact t_X12_works_407 w S (p0) (w26) M8
      refine aj_iconst (v := (1 : Int32)) dX12_works_345 (by decide) ?_
      refine aj_goto (tgt := 350) dX12_works_346 (by decide) ?_
      refine rS_J (as := [.int ((1 : Int32))]) (c_X12_is w S _ _) ms_X12_is rfl zg_1751 (by decide) (Nat.le_of_ble_eq_true rfl) dX12_works_350 (fun w27 => ?_)
      refine aj_lstore (ls2 := [(6, .long (w27)), (4, .long (w6)), (2, .long (w3)), (0, .ref (p0)), (1, .int (x1))]) dX12_works_353 (Nat.le_of_ble_eq_true rfl) rfl ?_
      refine aj_goto (tgt := 407) dX12_works_355 (by decide) ?_
      refine AJ.sub [3, 0] rfl ?_
      exact t_X12_works_407 w S (p0) (w27) M8
    refine aj_ite (fun h => ?_) (fun h28 => ?_)
    · have h9 : x1 = (258 : Int32) := h
      refine aj_lsw (tgt := 318) (off := 248) dX12_works_70 (by decide) (by rw [h9]; decide +kernel) (by decide) ?_
      refine aj_lload (0) dX12_works_318 rfl ?_
      refine aj_lload_n (1) dX12_works_320 rfl rfl ?_
      refine aj_lcmp dX12_works_321 ?_
      refine aj_if_lt (tgt := 329) dX12_works_322 (by decide) (fun h => ?_) (fun h => ?_)
      · refine aj_iconst (v := (0 : Int32)) dX12_works_329 (by decide) ?_
        refine rS_J (as := [.int ((0 : Int32))]) (c_X12_is w S _ _) ms_X12_is rfl zg_1751 (by decide) (Nat.le_of_ble_eq_true rfl) dX12_works_330 (fun w29 => ?_)
        refine aj_lstore (ls2 := [(6, .long (w29)), (4, .long (w6)), (2, .long (w3)), (0, .ref (p0)), (1, .int (x1))]) dX12_works_333 (Nat.le_of_ble_eq_true rfl) rfl ?_
        refine aj_goto (tgt := 407) dX12_works_335 (by decide) ?_
        refine AJ.sub [3, 0] rfl ?_
        exact t_X12_works_407 w S (p0) (w29) M8
      refine aj_iconst (v := (1 : Int32)) dX12_works_325 (by decide) ?_
      refine aj_goto (tgt := 330) dX12_works_326 (by decide) ?_
      refine rS_J (as := [.int ((1 : Int32))]) (c_X12_is w S _ _) ms_X12_is rfl zg_1751 (by decide) (Nat.le_of_ble_eq_true rfl) dX12_works_330 (fun w30 => ?_)
      refine aj_lstore (ls2 := [(6, .long (w30)), (4, .long (w6)), (2, .long (w3)), (0, .ref (p0)), (1, .int (x1))]) dX12_works_333 (Nat.le_of_ble_eq_true rfl) rfl ?_
      refine aj_goto (tgt := 407) dX12_works_335 (by decide) ?_
      refine AJ.sub [3, 0] rfl ?_
      exact t_X12_works_407 w S (p0) (w30) M8
    refine aj_ite (fun h => ?_) (fun h31 => ?_)
    · have h9 : x1 = (261 : Int32) := h
      refine aj_lsw (tgt := 358) (off := 288) dX12_works_70 (by decide) (by rw [h9]; decide +kernel) (by decide) ?_
      refine aj_lload (0) dX12_works_358 rfl ?_
      refine aj_lconst (v := (0 : Int64)) dX12_works_360 (by decide) ?_
      refine aj_lcmp dX12_works_361 ?_
      refine aj_if_eq (tgt := 375) dX12_works_362 (by decide) (fun h => ?_) (fun h => ?_)
      · refine aj_iconst (v := (0 : Int32)) dX12_works_375 (by decide) ?_
        refine rS_J (as := [.int ((0 : Int32))]) (c_X12_is w S _ _) ms_X12_is rfl zg_1751 (by decide) (Nat.le_of_ble_eq_true rfl) dX12_works_376 (fun w32 => ?_)
        refine aj_lstore (ls2 := [(6, .long (w32)), (4, .long (w6)), (2, .long (w3)), (0, .ref (p0)), (1, .int (x1))]) dX12_works_379 (Nat.le_of_ble_eq_true rfl) rfl ?_
        refine aj_goto (tgt := 407) dX12_works_381 (by decide) ?_
        refine AJ.sub [3, 0] rfl ?_
        exact t_X12_works_407 w S (p0) (w32) M8
      refine aj_lload_n (1) dX12_works_365 rfl rfl ?_
      refine aj_lconst (v := (0 : Int64)) dX12_works_366 (by decide) ?_
      refine aj_lcmp dX12_works_367 ?_
      refine aj_if_eq (tgt := 375) dX12_works_368 (by decide) (fun h => ?_) (fun h => ?_)
      · refine aj_iconst (v := (0 : Int32)) dX12_works_375 (by decide) ?_
        refine rS_J (as := [.int ((0 : Int32))]) (c_X12_is w S _ _) ms_X12_is rfl zg_1751 (by decide) (Nat.le_of_ble_eq_true rfl) dX12_works_376 (fun w33 => ?_)
        refine aj_lstore (ls2 := [(6, .long (w33)), (4, .long (w6)), (2, .long (w3)), (0, .ref (p0)), (1, .int (x1))]) dX12_works_379 (Nat.le_of_ble_eq_true rfl) rfl ?_
        refine aj_goto (tgt := 407) dX12_works_381 (by decide) ?_
        refine AJ.sub [3, 0] rfl ?_
        exact t_X12_works_407 w S (p0) (w33) M8
      refine aj_iconst (v := (1 : Int32)) dX12_works_371 (by decide) ?_
      refine aj_goto (tgt := 376) dX12_works_372 (by decide) ?_
      refine rS_J (as := [.int ((1 : Int32))]) (c_X12_is w S _ _) ms_X12_is rfl zg_1751 (by decide) (Nat.le_of_ble_eq_true rfl) dX12_works_376 (fun w34 => ?_)
      refine aj_lstore (ls2 := [(6, .long (w34)), (4, .long (w6)), (2, .long (w3)), (0, .ref (p0)), (1, .int (x1))]) dX12_works_379 (Nat.le_of_ble_eq_true rfl) rfl ?_
      refine aj_goto (tgt := 407) dX12_works_381 (by decide) ?_
      refine AJ.sub [3, 0] rfl ?_
      exact t_X12_works_407 w S (p0) (w34) M8
    refine aj_lsw (tgt := 384) (off := 314) dX12_works_70 (by decide) (by show Op.lookupswitch.offset [(42, 116), (43, 98), (45, 107), (47, 151), (60, 168), (61, 208), (62, 188), (256, 228), (257, 268), (258, 248), (261, 288)] _ _ = _; rw [lv_osw (k := (42 : Int32)) h9 (a := 42) (by decide), lv_osw (k := (43 : Int32)) h10 (a := 43) (by decide), lv_osw (k := (45 : Int32)) h11 (a := 45) (by decide), lv_osw (k := (47 : Int32)) h12 (a := 47) (by decide), lv_osw (k := (60 : Int32)) h13 (a := 60) (by decide), lv_osw (k := (61 : Int32)) h16 (a := 61) (by decide), lv_osw (k := (62 : Int32)) h19 (a := 62) (by decide), lv_osw (k := (256 : Int32)) h22 (a := 256) (by decide), lv_osw (k := (257 : Int32)) h25 (a := 257) (by decide), lv_osw (k := (258 : Int32)) h28 (a := 258) (by decide), lv_osw (k := (261 : Int32)) h31 (a := 261) (by decide)]; rfl) (by decide) ?_
    refine aj_lload (0) dX12_works_384 rfl ?_
    refine aj_lconst (v := (0 : Int64)) dX12_works_386 (by decide) ?_
    refine aj_lcmp dX12_works_387 ?_
    refine aj_if_ne (tgt := 397) dX12_works_388 (by decide) (fun h => ?_) (fun h => ?_)
    · refine aj_iconst (v := (1 : Int32)) dX12_works_397 (by decide) ?_
      refine aj_goto (tgt := 402) dX12_works_398 (by decide) ?_
      refine rS_J (as := [.int ((1 : Int32))]) (c_X12_is w S _ _) ms_X12_is rfl zg_1751 (by decide) (Nat.le_of_ble_eq_true rfl) dX12_works_402 (fun w35 => ?_)
      refine aj_lstore (ls2 := [(6, .long (w35)), (4, .long (w6)), (2, .long (w3)), (0, .ref (p0)), (1, .int (x1))]) dX12_works_405 (Nat.le_of_ble_eq_true rfl) rfl ?_
      refine AJ.sub [3, 0] rfl ?_
      exact t_X12_works_407 w S (p0) (w35) M8
    refine aj_lload_n (1) dX12_works_391 rfl rfl ?_
    refine aj_lconst (v := (0 : Int64)) dX12_works_392 (by decide) ?_
    refine aj_lcmp dX12_works_393 ?_
    refine aj_if_eq (tgt := 401) dX12_works_394 (by decide) (fun h => ?_) (fun h => ?_)
    · refine aj_iconst (v := (0 : Int32)) dX12_works_401 (by decide) ?_
      refine rS_J (as := [.int ((0 : Int32))]) (c_X12_is w S _ _) ms_X12_is rfl zg_1751 (by decide) (Nat.le_of_ble_eq_true rfl) dX12_works_402 (fun w36 => ?_)
      refine aj_lstore (ls2 := [(6, .long (w36)), (4, .long (w6)), (2, .long (w3)), (0, .ref (p0)), (1, .int (x1))]) dX12_works_405 (Nat.le_of_ble_eq_true rfl) rfl ?_
      refine AJ.sub [3, 0] rfl ?_
      exact t_X12_works_407 w S (p0) (w36) M8
    refine aj_iconst (v := (1 : Int32)) dX12_works_397 (by decide) ?_
    refine aj_goto (tgt := 402) dX12_works_398 (by decide) ?_
    refine rS_J (as := [.int ((1 : Int32))]) (c_X12_is w S _ _) ms_X12_is rfl zg_1751 (by decide) (Nat.le_of_ble_eq_true rfl) dX12_works_402 (fun w37 => ?_)
    refine aj_lstore (ls2 := [(6, .long (w37)), (4, .long (w6)), (2, .long (w3)), (0, .ref (p0)), (1, .int (x1))]) dX12_works_405 (Nat.le_of_ble_eq_true rfl) rfl ?_
    refine AJ.sub [3, 0] rfl ?_
    exact t_X12_works_407 w S (p0) (w37) M8
  refine aj_aload_n (1) dX12_works_19 rfl rfl ?_
  refine aj_getR (TX := TX12) zc12 (by decide) rfl (Or.inl zg_1381) dX12_works_20 (fun r38 => ?_)
  refine aj_aload_n (1) dX12_works_23 rfl rfl ?_
  refine r_getI (TX := TX12) zc12 (by decide) rfl (Or.inl zg_1382) dX12_works_24 (fun v39 => ?_)
  refine aj_iconst (v := (1 : Int32)) dX12_works_27 (by decide) ?_
  refine aj_isub dX12_works_28 ?_
  refine aj_lload_n (0) dX12_works_29 rfl rfl ?_
  refine aj_lconst (v := (0 : Int64)) dX12_works_30 (by decide) ?_
  refine aj_lcmp dX12_works_31 ?_
  refine aj_if_ne (tgt := 39) dX12_works_32 (by decide) (fun h => ?_) (fun h => ?_)
  · refine aj_iconst (v := (0 : Int32)) dX12_works_39 (by decide) ?_
    refine rS_J (as := [.int ((0 : Int32))]) (c_X12_is w S _ _) ms_X12_is rfl zg_1751 (by decide) (Nat.le_of_ble_eq_true rfl) dX12_works_40 (fun w40 => ?_)
    refine r_last dX12_works_43 (fun M41 => ?_)
    refine aj_iconst (v := (1 : Int32)) dX12_works_44 (by decide) ?_
    exact aj_iret dX12_works_45 rfl (by decide +kernel) rfl
  refine aj_iconst (v := (1 : Int32)) dX12_works_35 (by decide) ?_
  refine aj_goto (tgt := 40) dX12_works_36 (by decide) ?_
  refine rS_J (as := [.int ((1 : Int32))]) (c_X12_is w S _ _) ms_X12_is rfl zg_1751 (by decide) (Nat.le_of_ble_eq_true rfl) dX12_works_40 (fun w42 => ?_)
  refine r_last dX12_works_43 (fun M43 => ?_)
  refine aj_iconst (v := (1 : Int32)) dX12_works_44 (by decide) ?_
  exact aj_iret dX12_works_45 rfl (by decide +kernel) rfl
def gX12_goes_12 (S : List (Nat × Nat)) : Nat → Nat → Int32 → Int32 → zM → Option (Int32 × zM)
  | 0 => fun _ _ _ _ => none
  | n + 1 => fun p0 x1 x2 M => zgR S M (p0) 12 66 14 (fun r1 => zaI S M 100 (r1) (x1) (fun v2 => (if v2 ≤ x2 then some ((1 : Int32), M) else zgR S M (p0) 12 66 15 (fun r3 => zaI S M 100 (r3) (x2) (fun v4 => (if v4 = (2 : Int32) then zgR S M (p0) 12 66 16 (fun r21 => zaI S M 100 (r21) (x2) (fun v22 => zrc S (p0) 12 66 (zb2 (gX12_works S (p0) (v22) M) (fun v23 M24 => (if v23 = 0 then some ((0 : Int32), M24) else (gX12_goes_12 S   n) (p0) (x1) ((x2 + (1 : Int32))) M24))))) else zgR S M (p0) 12 66 31 (fun r5 => zgI S M (p0) 12 66 32 (fun v6 => zgR S M (p0) 12 66 15 (fun r7 => zaI S M 100 (r7) (x2) (fun v8 => (if v8 = 0 then zgR S M (p0) 12 66 16 (fun r16 => zaI S M 100 (r16) (x2) (fun v17 => zbL S M (r5) (v6) ((v17).toInt64) (fun M18 => zgI S M18 (p0) 12 66 32 (fun v19 => zpI S M18 (p0) 12 66 32 ((v19 + (1 : Int32))) (fun M20 => (gX12_goes_12 S   n) (p0) (x1) ((x2 + (1 : Int32))) M20))))) else zgR S M (p0) 12 66 30 (fun r9 => zgR S M (p0) 12 66 16 (fun r10 => zaI S M 100 (r10) (x2) (fun v11 => zaL S M (r9) (v11) (fun w12 => zbL S M (r5) (v6) (w12) (fun M13 => zgI S M13 (p0) 12 66 32 (fun v14 => zpI S M13 (p0) 12 66 32 ((v14 + (1 : Int32))) (fun M15 => (gX12_goes_12 S   n) (p0) (x1) ((x2 + (1 : Int32))) M15))))))))))))))))))
set_option maxHeartbeats 4000000 in
set_option maxRecDepth 100000 in
theorem t_X12_goes_12 (w : zWd) (S : List (Nat × Nat)) (fu : Nat) : ∀ (p0 : Nat) (x1 : Int32) (x2 : Int32) (M : zM), AJ (zfIM S) w 3 mX12_goes 12 [(0, .ref (p0)), (1, .int (x1)), (2, .int (x2))] [] (S, M) (gX12_goes_12 S fu p0 x1 x2 M) := by
  induction fu with
  | zero => intro p0 x1 x2 M; exact AJ.none
  | succ n ih =>
    intro p0 x1 x2 M
    unfold gX12_goes_12
    refine aj_iload_n (2) dX12_goes_12 rfl rfl ?_
    refine aj_aload_n (0) dX12_goes_13 rfl rfl ?_
    refine aj_getR (TX := TX12) zc12 (by decide) rfl (Or.inl zg_1364) dX12_goes_14 (fun r1 => ?_)
    refine aj_iload_n (1) dX12_goes_17 rfl rfl ?_
    refine r_iald dX12_goes_18 (fun v2 => ?_)
    refine aj_icmp_ge (tgt := 102) dX12_goes_19 (by decide) (fun h => ?_) (fun h => ?_)
    · refine aj_iconst (v := (1 : Int32)) dX12_goes_102 (by decide) ?_
      exact aj_iret dX12_goes_103 rfl (by decide +kernel) rfl
    refine aj_aload_n (0) dX12_goes_22 rfl rfl ?_
    refine aj_getR (TX := TX12) zc12 (by decide) rfl (Or.inl zg_1365) dX12_goes_23 (fun r3 => ?_)
    refine aj_iload_n (2) dX12_goes_26 rfl rfl ?_
    refine r_iald dX12_goes_27 (fun v4 => ?_)
    refine aj_iconst (v := (2 : Int32)) dX12_goes_28 (by decide) ?_
    refine aj_icmp_ne (tgt := 47) dX12_goes_29 (by decide) (fun h => ?_) (fun h => ?_)
    · refine aj_aload_n (0) dX12_goes_47 rfl rfl ?_
      refine aj_getR (TX := TX12) zc12 (by decide) rfl (Or.inl zg_1381) dX12_goes_48 (fun r5 => ?_)
      refine aj_aload_n (0) dX12_goes_51 rfl rfl ?_
      refine r_getI (TX := TX12) zc12 (by decide) rfl (Or.inl zg_1382) dX12_goes_52 (fun v6 => ?_)
      refine aj_aload_n (0) dX12_goes_55 rfl rfl ?_
      refine aj_getR (TX := TX12) zc12 (by decide) rfl (Or.inl zg_1365) dX12_goes_56 (fun r7 => ?_)
      refine aj_iload_n (2) dX12_goes_59 rfl rfl ?_
      refine r_iald dX12_goes_60 (fun v8 => ?_)
      refine aj_if_ne (tgt := 74) dX12_goes_61 (by decide) (fun h => ?_) (fun h => ?_)
      · refine aj_aload_n (0) dX12_goes_74 rfl rfl ?_
        refine aj_getR (TX := TX12) zc12 (by decide) rfl (Or.inl zg_1380) dX12_goes_75 (fun r9 => ?_)
        refine aj_aload_n (0) dX12_goes_78 rfl rfl ?_
        refine aj_getR (TX := TX12) zc12 (by decide) rfl (Or.inl zg_1366) dX12_goes_79 (fun r10 => ?_)
        refine aj_iload_n (2) dX12_goes_82 rfl rfl ?_
        refine r_iald dX12_goes_83 (fun v11 => ?_)
        refine r_lald dX12_goes_84 (fun w12 => ?_)
        refine r_last dX12_goes_85 (fun M13 => ?_)
        refine aj_aload_n (0) dX12_goes_86 rfl rfl ?_
        refine aj_dup dX12_goes_87 rfl ?_
        refine r_getI (TX := TX12) zc12 (by decide) rfl (Or.inl zg_1382) dX12_goes_88 (fun v14 => ?_)
        refine aj_iconst (v := (1 : Int32)) dX12_goes_91 (by decide) ?_
        refine aj_iadd dX12_goes_92 ?_
        refine r_putI (TX := TX12) zc12 (by decide) rfl rfl rfl rfl (Or.inl zg_1382) dX12_goes_93 (fun M15 => ?_)
        refine aj_iinc (j := 2) (v := (x2 + (1 : Int32))) (ls2 := [(2, .int ((x2 + (1 : Int32)))), (0, .ref (p0)), (1, .int (x1))]) dX12_goes_96 rfl rfl (Nat.le_of_ble_eq_true rfl) rfl ?_
        refine aj_goto (tgt := 12) dX12_goes_99 (by decide) ?_
        refine AJ.sub [1, 2, 0] rfl ?_
        exact ih (p0) (x1) ((x2 + (1 : Int32))) M15
      refine aj_aload_n (0) dX12_goes_64 rfl rfl ?_
      refine aj_getR (TX := TX12) zc12 (by decide) rfl (Or.inl zg_1366) dX12_goes_65 (fun r16 => ?_)
      refine aj_iload_n (2) dX12_goes_68 rfl rfl ?_
      refine r_iald dX12_goes_69 (fun v17 => ?_)
      refine aj_i2l dX12_goes_70 ?_
      refine aj_goto (tgt := 85) dX12_goes_71 (by decide) ?_
      refine r_last dX12_goes_85 (fun M18 => ?_)
      refine aj_aload_n (0) dX12_goes_86 rfl rfl ?_
      refine aj_dup dX12_goes_87 rfl ?_
      refine r_getI (TX := TX12) zc12 (by decide) rfl (Or.inl zg_1382) dX12_goes_88 (fun v19 => ?_)
      refine aj_iconst (v := (1 : Int32)) dX12_goes_91 (by decide) ?_
      refine aj_iadd dX12_goes_92 ?_
      refine r_putI (TX := TX12) zc12 (by decide) rfl rfl rfl rfl (Or.inl zg_1382) dX12_goes_93 (fun M20 => ?_)
      refine aj_iinc (j := 2) (v := (x2 + (1 : Int32))) (ls2 := [(2, .int ((x2 + (1 : Int32)))), (0, .ref (p0)), (1, .int (x1))]) dX12_goes_96 rfl rfl (Nat.le_of_ble_eq_true rfl) rfl ?_
      refine aj_goto (tgt := 12) dX12_goes_99 (by decide) ?_
      refine AJ.sub [1, 2, 0] rfl ?_
      exact ih (p0) (x1) ((x2 + (1 : Int32))) M20
    refine aj_aload_n (0) dX12_goes_32 rfl rfl ?_
    refine aj_aload_n (0) dX12_goes_33 rfl rfl ?_
    refine aj_getR (TX := TX12) zc12 (by decide) rfl (Or.inl zg_1366) dX12_goes_34 (fun r21 => ?_)
    refine aj_iload_n (2) dX12_goes_37 rfl rfl ?_
    refine r_iald dX12_goes_38 (fun v22 => ?_)
    refine rV_IM (as := [.int (v22)]) (c_X12_works w S _ _ _) mv_X12_works rfl zg_1747 (by decide) (Nat.le_of_ble_eq_true rfl) dX12_goes_39 (fun v23 M24 => ?_)
    refine aj_if_ne (tgt := 96) dX12_goes_42 (by decide) (fun h => ?_) (fun h => ?_)
    · refine aj_iinc (j := 2) (v := (x2 + (1 : Int32))) (ls2 := [(2, .int ((x2 + (1 : Int32)))), (0, .ref (p0)), (1, .int (x1))]) dX12_goes_96 rfl rfl (Nat.le_of_ble_eq_true rfl) rfl ?_
      refine aj_goto (tgt := 12) dX12_goes_99 (by decide) ?_
      refine AJ.sub [1, 2, 0] rfl ?_
      exact ih (p0) (x1) ((x2 + (1 : Int32))) M24
    refine aj_iconst (v := (0 : Int32)) dX12_goes_45 (by decide) ?_
    exact aj_iret dX12_goes_46 rfl (by decide +kernel) rfl
def gX12_goes (S : List (Nat × Nat)) (p0 : Nat) (x1 : Int32) (M : zM) : Option (Int32 × zM) := zpI S M (p0) 12 66 32 ((0 : Int32)) (fun M1 => zgR S M1 (p0) 12 66 13 (fun r2 => zaI S M1 100 (r2) (x1) (fun v3 => gX12_goes_12 S zfu (p0) (x1) (v3) M1)))
set_option maxHeartbeats 4000000 in
set_option maxRecDepth 100000 in
theorem c_X12_goes (w : zWd) (S : List (Nat × Nat)) (p0 : Nat) (x1 : Int32) (M : zM) : CT (zfIM S) w 3 mX12_goes [.ref (p0), .int (x1)] (S, M) (gX12_goes S p0 x1 M) := by
  refine CT.of (by decide) (Nat.le_of_ble_eq_true rfl) ?_
  show AJ _ _ _ _ 0 [(0, .ref (p0)), (1, .int (x1))] [] _ _
  unfold gX12_goes
  refine aj_aload_n (0) dX12_goes_0 rfl rfl ?_
  refine aj_iconst (v := (0 : Int32)) dX12_goes_1 (by decide) ?_
  refine r_putI (TX := TX12) zc12 (by decide) rfl rfl rfl rfl (Or.inl zg_1382) dX12_goes_2 (fun M1 => ?_)
  refine aj_aload_n (0) dX12_goes_5 rfl rfl ?_
  refine aj_getR (TX := TX12) zc12 (by decide) rfl (Or.inl zg_1363) dX12_goes_6 (fun r2 => ?_)
  refine aj_iload_n (1) dX12_goes_9 rfl rfl ?_
  refine r_iald dX12_goes_10 (fun v3 => ?_)
  refine aj_istore_n (ls2 := [(2, .int (v3)), (0, .ref (p0)), (1, .int (x1))]) dX12_goes_11 rfl (Nat.le_of_ble_eq_true rfl) rfl ?_
  refine AJ.sub [1, 2, 0] rfl ?_
  exact t_X12_goes_12 w S zfu (p0) (x1) (v3) M1
def gX12_hasLaw (S : List (Nat × Nat)) (p0 : Nat) (x1 : Int32) (M : zM) : Option Int32 := zgR S M (p0) 12 66 14 (fun r1 => zaI S M 100 (r1) (x1) (fun v2 => zgR S M (p0) 12 66 13 (fun r3 => zaI S M 100 (r3) (x1) (fun v4 => (if v2 ≤ v4 then some ((0 : Int32)) else some ((1 : Int32)))))))
set_option maxHeartbeats 4000000 in
set_option maxRecDepth 100000 in
theorem c_X12_hasLaw (w : zWd) (S : List (Nat × Nat)) (p0 : Nat) (x1 : Int32) (M : zM) : CT (zfI S M) w 1 mX12_hasLaw [.ref (p0), .int (x1)] (S, M) (gX12_hasLaw S p0 x1 M) := by
  refine CT.of (by decide) (Nat.le_of_ble_eq_true rfl) ?_
  show AJ _ _ _ _ 0 [(0, .ref (p0)), (1, .int (x1))] [] _ _
  unfold gX12_hasLaw
  refine aj_aload_n (0) dX12_hasLaw_0 rfl rfl ?_
  refine aj_getR (TX := TX12) zc12 (by decide) rfl (Or.inl zg_1364) dX12_hasLaw_1 (fun r1 => ?_)
  refine aj_iload_n (1) dX12_hasLaw_4 rfl rfl ?_
  refine r_iald dX12_hasLaw_5 (fun v2 => ?_)
  refine aj_aload_n (0) dX12_hasLaw_6 rfl rfl ?_
  refine aj_getR (TX := TX12) zc12 (by decide) rfl (Or.inl zg_1363) dX12_hasLaw_7 (fun r3 => ?_)
  refine aj_iload_n (1) dX12_hasLaw_10 rfl rfl ?_
  refine r_iald dX12_hasLaw_11 (fun v4 => ?_)
  refine aj_icmp_le (tgt := 19) dX12_hasLaw_12 (by decide) (fun h => ?_) (fun h => ?_)
  · refine aj_iconst (v := (0 : Int32)) dX12_hasLaw_19 (by decide) ?_
    exact aj_iret dX12_hasLaw_20 rfl (by decide +kernel) rfl
  refine aj_iconst (v := (1 : Int32)) dX12_hasLaw_15 (by decide) ?_
  refine aj_goto (tgt := 20) dX12_hasLaw_16 (by decide) ?_
  exact aj_iret dX12_hasLaw_20 rfl (by decide +kernel) rfl
def gX12_copies_192 (S : List (Nat × Nat)) : Nat → Nat → Int32 → Int32 → Int32 → zM → Option zM
  | 0 => fun _ _ _ _ _ => none
  | n + 1 => fun p0 x1 x2 x3 M => (if (5 : Int32) ≤ x3 then some M else zgR S M (p0) 12 66 44 (fun r1 => zgR S M (p0) 12 66 44 (fun r2 => zaI S M 100 (r2) ((((5 : Int32) * x2) + x3)) (fun v3 => zbI S M (r1) ((((5 : Int32) * x1) + x3)) (v3) (fun M4 => (gX12_copies_192 S   n) (p0) (x1) (x2) ((x3 + (1 : Int32))) M4)))))
set_option maxHeartbeats 4000000 in
set_option maxRecDepth 100000 in
theorem t_X12_copies_192 (w : zWd) (S : List (Nat × Nat)) (fu : Nat) : ∀ (p0 : Nat) (x1 : Int32) (x2 : Int32) (x3 : Int32) (M : zM), AJ (zfVM S) w 1 mX12_copies 192 [(0, .ref (p0)), (1, .int (x1)), (2, .int (x2)), (3, .int (x3))] [] (S, M) (gX12_copies_192 S fu p0 x1 x2 x3 M) := by
  induction fu with
  | zero => intro p0 x1 x2 x3 M; exact AJ.none
  | succ n ih =>
    intro p0 x1 x2 x3 M
    unfold gX12_copies_192
    refine aj_iload_n (3) dX12_copies_192 rfl rfl ?_
    refine aj_iconst (v := (5 : Int32)) dX12_copies_193 (by decide) ?_
    refine aj_icmp_ge (tgt := 223) dX12_copies_194 (by decide) (fun h => ?_) (fun h => ?_)
    · exact aj_vret dX12_copies_223 rfl rfl
    refine aj_aload_n (0) dX12_copies_197 rfl rfl ?_
    refine aj_getR (TX := TX12) zc12 (by decide) rfl (Or.inl zg_1394) dX12_copies_198 (fun r1 => ?_)
    refine aj_iconst (v := (5 : Int32)) dX12_copies_201 (by decide) ?_
    refine aj_iload_n (1) dX12_copies_202 rfl rfl ?_
    refine aj_imul dX12_copies_203 ?_
    refine aj_iload_n (3) dX12_copies_204 rfl rfl ?_
    refine aj_iadd dX12_copies_205 ?_
    refine aj_aload_n (0) dX12_copies_206 rfl rfl ?_
    refine aj_getR (TX := TX12) zc12 (by decide) rfl (Or.inl zg_1394) dX12_copies_207 (fun r2 => ?_)
    refine aj_iconst (v := (5 : Int32)) dX12_copies_210 (by decide) ?_
    refine aj_iload_n (2) dX12_copies_211 rfl rfl ?_
    refine aj_imul dX12_copies_212 ?_
    refine aj_iload_n (3) dX12_copies_213 rfl rfl ?_
    refine aj_iadd dX12_copies_214 ?_
    refine r_iald dX12_copies_215 (fun v3 => ?_)
    refine r_iast dX12_copies_216 (fun M4 => ?_)
    refine aj_iinc (j := 3) (v := (x3 + (1 : Int32))) (ls2 := [(3, .int ((x3 + (1 : Int32)))), (0, .ref (p0)), (1, .int (x1)), (2, .int (x2))]) dX12_copies_217 rfl rfl (Nat.le_of_ble_eq_true rfl) rfl ?_
    refine aj_goto (tgt := 192) dX12_copies_220 (by decide) ?_
    refine AJ.sub [1, 2, 3, 0] rfl ?_
    exact ih (p0) (x1) (x2) ((x3 + (1 : Int32))) M4
def gX12_copies_156 (S : List (Nat × Nat)) : Nat → Nat → Int32 → Int32 → Int32 → zM → Option zM
  | 0 => fun _ _ _ _ _ => none
  | n + 1 => fun p0 x1 x2 x3 M => (if (12 : Int32) ≤ x3 then gX12_copies_192 S zfu (p0) (x1) (x2) ((0 : Int32)) M else zgR S M (p0) 12 66 43 (fun r1 => zgR S M (p0) 12 66 43 (fun r2 => zaI S M 100 (r2) ((((12 : Int32) * x2) + x3)) (fun v3 => zbI S M (r1) ((((12 : Int32) * x1) + x3)) (v3) (fun M4 => (gX12_copies_156 S   n) (p0) (x1) (x2) ((x3 + (1 : Int32))) M4)))))
set_option maxHeartbeats 4000000 in
set_option maxRecDepth 100000 in
theorem t_X12_copies_156 (w : zWd) (S : List (Nat × Nat)) (fu : Nat) : ∀ (p0 : Nat) (x1 : Int32) (x2 : Int32) (x3 : Int32) (M : zM), AJ (zfVM S) w 1 mX12_copies 156 [(0, .ref (p0)), (1, .int (x1)), (2, .int (x2)), (3, .int (x3))] [] (S, M) (gX12_copies_156 S fu p0 x1 x2 x3 M) := by
  induction fu with
  | zero => intro p0 x1 x2 x3 M; exact AJ.none
  | succ n ih =>
    intro p0 x1 x2 x3 M
    unfold gX12_copies_156
    refine aj_iload_n (3) dX12_copies_156 rfl rfl ?_
    refine aj_bipush (v := (12 : Int32)) dX12_copies_157 (by decide) ?_
    refine aj_icmp_ge (tgt := 190) dX12_copies_159 (by decide) (fun h => ?_) (fun h => ?_)
    · refine aj_iconst (v := (0 : Int32)) dX12_copies_190 (by decide) ?_
      refine aj_istore_n (ls2 := [(3, .int ((0 : Int32))), (0, .ref (p0)), (1, .int (x1)), (2, .int (x2))]) dX12_copies_191 rfl (Nat.le_of_ble_eq_true rfl) rfl ?_
      refine AJ.sub [1, 2, 3, 0] rfl ?_
      exact t_X12_copies_192 w S zfu (p0) (x1) (x2) ((0 : Int32)) M
    refine aj_aload_n (0) dX12_copies_162 rfl rfl ?_
    refine aj_getR (TX := TX12) zc12 (by decide) rfl (Or.inl zg_1393) dX12_copies_163 (fun r1 => ?_)
    refine aj_bipush (v := (12 : Int32)) dX12_copies_166 (by decide) ?_
    refine aj_iload_n (1) dX12_copies_168 rfl rfl ?_
    refine aj_imul dX12_copies_169 ?_
    refine aj_iload_n (3) dX12_copies_170 rfl rfl ?_
    refine aj_iadd dX12_copies_171 ?_
    refine aj_aload_n (0) dX12_copies_172 rfl rfl ?_
    refine aj_getR (TX := TX12) zc12 (by decide) rfl (Or.inl zg_1393) dX12_copies_173 (fun r2 => ?_)
    refine aj_bipush (v := (12 : Int32)) dX12_copies_176 (by decide) ?_
    refine aj_iload_n (2) dX12_copies_178 rfl rfl ?_
    refine aj_imul dX12_copies_179 ?_
    refine aj_iload_n (3) dX12_copies_180 rfl rfl ?_
    refine aj_iadd dX12_copies_181 ?_
    refine r_iald dX12_copies_182 (fun v3 => ?_)
    refine r_iast dX12_copies_183 (fun M4 => ?_)
    refine aj_iinc (j := 3) (v := (x3 + (1 : Int32))) (ls2 := [(3, .int ((x3 + (1 : Int32)))), (0, .ref (p0)), (1, .int (x1)), (2, .int (x2))]) dX12_copies_184 rfl rfl (Nat.le_of_ble_eq_true rfl) rfl ?_
    refine aj_goto (tgt := 156) dX12_copies_187 (by decide) ?_
    refine AJ.sub [1, 2, 3, 0] rfl ?_
    exact ih (p0) (x1) (x2) ((x3 + (1 : Int32))) M4
def gX12_copies_98 (S : List (Nat × Nat)) : Nat → Nat → Int32 → Int32 → Int32 → zM → Option zM
  | 0 => fun _ _ _ _ _ => none
  | n + 1 => fun p0 x1 x2 x3 M => (if (6 : Int32) ≤ x3 then gX12_copies_156 S zfu (p0) (x1) (x2) ((0 : Int32)) M else zgR S M (p0) 12 66 41 (fun r1 => zgR S M (p0) 12 66 41 (fun r2 => zaI S M 100 (r2) ((((6 : Int32) * x2) + x3)) (fun v3 => zbI S M (r1) ((((6 : Int32) * x1) + x3)) (v3) (fun M4 => zgR S M4 (p0) 12 66 42 (fun r5 => zgR S M4 (p0) 12 66 42 (fun r6 => zaI S M4 100 (r6) ((((6 : Int32) * x2) + x3)) (fun v7 => zbI S M4 (r5) ((((6 : Int32) * x1) + x3)) (v7) (fun M8 => (gX12_copies_98 S   n) (p0) (x1) (x2) ((x3 + (1 : Int32))) M8)))))))))
set_option maxHeartbeats 4000000 in
set_option maxRecDepth 100000 in
theorem t_X12_copies_98 (w : zWd) (S : List (Nat × Nat)) (fu : Nat) : ∀ (p0 : Nat) (x1 : Int32) (x2 : Int32) (x3 : Int32) (M : zM), AJ (zfVM S) w 1 mX12_copies 98 [(0, .ref (p0)), (1, .int (x1)), (2, .int (x2)), (3, .int (x3))] [] (S, M) (gX12_copies_98 S fu p0 x1 x2 x3 M) := by
  induction fu with
  | zero => intro p0 x1 x2 x3 M; exact AJ.none
  | succ n ih =>
    intro p0 x1 x2 x3 M
    unfold gX12_copies_98
    refine aj_iload_n (3) dX12_copies_98 rfl rfl ?_
    refine aj_bipush (v := (6 : Int32)) dX12_copies_99 (by decide) ?_
    refine aj_icmp_ge (tgt := 154) dX12_copies_101 (by decide) (fun h => ?_) (fun h => ?_)
    · refine aj_iconst (v := (0 : Int32)) dX12_copies_154 (by decide) ?_
      refine aj_istore_n (ls2 := [(3, .int ((0 : Int32))), (0, .ref (p0)), (1, .int (x1)), (2, .int (x2))]) dX12_copies_155 rfl (Nat.le_of_ble_eq_true rfl) rfl ?_
      refine AJ.sub [1, 2, 3, 0] rfl ?_
      exact t_X12_copies_156 w S zfu (p0) (x1) (x2) ((0 : Int32)) M
    refine aj_aload_n (0) dX12_copies_104 rfl rfl ?_
    refine aj_getR (TX := TX12) zc12 (by decide) rfl (Or.inl zg_1391) dX12_copies_105 (fun r1 => ?_)
    refine aj_bipush (v := (6 : Int32)) dX12_copies_108 (by decide) ?_
    refine aj_iload_n (1) dX12_copies_110 rfl rfl ?_
    refine aj_imul dX12_copies_111 ?_
    refine aj_iload_n (3) dX12_copies_112 rfl rfl ?_
    refine aj_iadd dX12_copies_113 ?_
    refine aj_aload_n (0) dX12_copies_114 rfl rfl ?_
    refine aj_getR (TX := TX12) zc12 (by decide) rfl (Or.inl zg_1391) dX12_copies_115 (fun r2 => ?_)
    refine aj_bipush (v := (6 : Int32)) dX12_copies_118 (by decide) ?_
    refine aj_iload_n (2) dX12_copies_120 rfl rfl ?_
    refine aj_imul dX12_copies_121 ?_
    refine aj_iload_n (3) dX12_copies_122 rfl rfl ?_
    refine aj_iadd dX12_copies_123 ?_
    refine r_iald dX12_copies_124 (fun v3 => ?_)
    refine r_iast dX12_copies_125 (fun M4 => ?_)
    refine aj_aload_n (0) dX12_copies_126 rfl rfl ?_
    refine aj_getR (TX := TX12) zc12 (by decide) rfl (Or.inl zg_1392) dX12_copies_127 (fun r5 => ?_)
    refine aj_bipush (v := (6 : Int32)) dX12_copies_130 (by decide) ?_
    refine aj_iload_n (1) dX12_copies_132 rfl rfl ?_
    refine aj_imul dX12_copies_133 ?_
    refine aj_iload_n (3) dX12_copies_134 rfl rfl ?_
    refine aj_iadd dX12_copies_135 ?_
    refine aj_aload_n (0) dX12_copies_136 rfl rfl ?_
    refine aj_getR (TX := TX12) zc12 (by decide) rfl (Or.inl zg_1392) dX12_copies_137 (fun r6 => ?_)
    refine aj_bipush (v := (6 : Int32)) dX12_copies_140 (by decide) ?_
    refine aj_iload_n (2) dX12_copies_142 rfl rfl ?_
    refine aj_imul dX12_copies_143 ?_
    refine aj_iload_n (3) dX12_copies_144 rfl rfl ?_
    refine aj_iadd dX12_copies_145 ?_
    refine r_iald dX12_copies_146 (fun v7 => ?_)
    refine r_iast dX12_copies_147 (fun M8 => ?_)
    refine aj_iinc (j := 3) (v := (x3 + (1 : Int32))) (ls2 := [(3, .int ((x3 + (1 : Int32)))), (0, .ref (p0)), (1, .int (x1)), (2, .int (x2))]) dX12_copies_148 rfl rfl (Nat.le_of_ble_eq_true rfl) rfl ?_
    refine aj_goto (tgt := 98) dX12_copies_151 (by decide) ?_
    refine AJ.sub [1, 2, 3, 0] rfl ?_
    exact ih (p0) (x1) (x2) ((x3 + (1 : Int32))) M8
def gX12_copies (S : List (Nat × Nat)) (p0 : Nat) (x1 : Int32) (x2 : Int32) (M : zM) : Option zM := zgR S M (p0) 12 66 33 (fun r1 => zgR S M (p0) 12 66 33 (fun r2 => zaI S M 100 (r2) (x2) (fun v3 => zbI S M (r1) (x1) (v3) (fun M4 => zgR S M4 (p0) 12 66 34 (fun r5 => zgR S M4 (p0) 12 66 34 (fun r6 => zaI S M4 100 (r6) (x2) (fun v7 => zbI S M4 (r5) (x1) (v7) (fun M8 => zgR S M8 (p0) 12 66 35 (fun r9 => zgR S M8 (p0) 12 66 35 (fun r10 => zaI S M8 100 (r10) (x2) (fun v11 => zbI S M8 (r9) (x1) (v11) (fun M12 => zgR S M12 (p0) 12 66 36 (fun r13 => zgR S M12 (p0) 12 66 36 (fun r14 => zaI S M12 100 (r14) (x2) (fun v15 => zbI S M12 (r13) (x1) (v15) (fun M16 => zgR S M16 (p0) 12 66 37 (fun r17 => zgR S M16 (p0) 12 66 37 (fun r18 => zaI S M16 100 (r18) (x2) (fun v19 => zbI S M16 (r17) (x1) (v19) (fun M20 => zgR S M20 (p0) 12 66 38 (fun r21 => zgR S M20 (p0) 12 66 38 (fun r22 => zaI S M20 100 (r22) (x2) (fun v23 => zbI S M20 (r21) (x1) (v23) (fun M24 => zgR S M24 (p0) 12 66 39 (fun r25 => zgR S M24 (p0) 12 66 39 (fun r26 => zaI S M24 100 (r26) (x2) (fun v27 => zbI S M24 (r25) (x1) (v27) (fun M28 => zgR S M28 (p0) 12 66 40 (fun r29 => zgR S M28 (p0) 12 66 40 (fun r30 => zaI S M28 100 (r30) (x2) (fun v31 => zbI S M28 (r29) (x1) (v31) (fun M32 => gX12_copies_98 S zfu (p0) (x1) (x2) ((0 : Int32)) M32))))))))))))))))))))))))))))))))
set_option maxHeartbeats 4000000 in
set_option maxRecDepth 100000 in
theorem c_X12_copies (w : zWd) (S : List (Nat × Nat)) (p0 : Nat) (x1 : Int32) (x2 : Int32) (M : zM) : CT (zfVM S) w 1 mX12_copies [.ref (p0), .int (x1), .int (x2)] (S, M) (gX12_copies S p0 x1 x2 M) := by
  refine CT.of (by decide) (Nat.le_of_ble_eq_true rfl) ?_
  show AJ _ _ _ _ 0 [(0, .ref (p0)), (1, .int (x1)), (2, .int (x2))] [] _ _
  unfold gX12_copies
  refine aj_aload_n (0) dX12_copies_0 rfl rfl ?_
  refine aj_getR (TX := TX12) zc12 (by decide) rfl (Or.inl zg_1383) dX12_copies_1 (fun r1 => ?_)
  refine aj_iload_n (1) dX12_copies_4 rfl rfl ?_
  refine aj_aload_n (0) dX12_copies_5 rfl rfl ?_
  refine aj_getR (TX := TX12) zc12 (by decide) rfl (Or.inl zg_1383) dX12_copies_6 (fun r2 => ?_)
  refine aj_iload_n (2) dX12_copies_9 rfl rfl ?_
  refine r_iald dX12_copies_10 (fun v3 => ?_)
  refine r_iast dX12_copies_11 (fun M4 => ?_)
  refine aj_aload_n (0) dX12_copies_12 rfl rfl ?_
  refine aj_getR (TX := TX12) zc12 (by decide) rfl (Or.inl zg_1384) dX12_copies_13 (fun r5 => ?_)
  refine aj_iload_n (1) dX12_copies_16 rfl rfl ?_
  refine aj_aload_n (0) dX12_copies_17 rfl rfl ?_
  refine aj_getR (TX := TX12) zc12 (by decide) rfl (Or.inl zg_1384) dX12_copies_18 (fun r6 => ?_)
  refine aj_iload_n (2) dX12_copies_21 rfl rfl ?_
  refine r_iald dX12_copies_22 (fun v7 => ?_)
  refine r_iast dX12_copies_23 (fun M8 => ?_)
  refine aj_aload_n (0) dX12_copies_24 rfl rfl ?_
  refine aj_getR (TX := TX12) zc12 (by decide) rfl (Or.inl zg_1385) dX12_copies_25 (fun r9 => ?_)
  refine aj_iload_n (1) dX12_copies_28 rfl rfl ?_
  refine aj_aload_n (0) dX12_copies_29 rfl rfl ?_
  refine aj_getR (TX := TX12) zc12 (by decide) rfl (Or.inl zg_1385) dX12_copies_30 (fun r10 => ?_)
  refine aj_iload_n (2) dX12_copies_33 rfl rfl ?_
  refine r_iald dX12_copies_34 (fun v11 => ?_)
  refine r_iast dX12_copies_35 (fun M12 => ?_)
  refine aj_aload_n (0) dX12_copies_36 rfl rfl ?_
  refine aj_getR (TX := TX12) zc12 (by decide) rfl (Or.inl zg_1386) dX12_copies_37 (fun r13 => ?_)
  refine aj_iload_n (1) dX12_copies_40 rfl rfl ?_
  refine aj_aload_n (0) dX12_copies_41 rfl rfl ?_
  refine aj_getR (TX := TX12) zc12 (by decide) rfl (Or.inl zg_1386) dX12_copies_42 (fun r14 => ?_)
  refine aj_iload_n (2) dX12_copies_45 rfl rfl ?_
  refine r_iald dX12_copies_46 (fun v15 => ?_)
  refine r_iast dX12_copies_47 (fun M16 => ?_)
  refine aj_aload_n (0) dX12_copies_48 rfl rfl ?_
  refine aj_getR (TX := TX12) zc12 (by decide) rfl (Or.inl zg_1387) dX12_copies_49 (fun r17 => ?_)
  refine aj_iload_n (1) dX12_copies_52 rfl rfl ?_
  refine aj_aload_n (0) dX12_copies_53 rfl rfl ?_
  refine aj_getR (TX := TX12) zc12 (by decide) rfl (Or.inl zg_1387) dX12_copies_54 (fun r18 => ?_)
  refine aj_iload_n (2) dX12_copies_57 rfl rfl ?_
  refine r_iald dX12_copies_58 (fun v19 => ?_)
  refine r_iast dX12_copies_59 (fun M20 => ?_)
  refine aj_aload_n (0) dX12_copies_60 rfl rfl ?_
  refine aj_getR (TX := TX12) zc12 (by decide) rfl (Or.inl zg_1388) dX12_copies_61 (fun r21 => ?_)
  refine aj_iload_n (1) dX12_copies_64 rfl rfl ?_
  refine aj_aload_n (0) dX12_copies_65 rfl rfl ?_
  refine aj_getR (TX := TX12) zc12 (by decide) rfl (Or.inl zg_1388) dX12_copies_66 (fun r22 => ?_)
  refine aj_iload_n (2) dX12_copies_69 rfl rfl ?_
  refine r_iald dX12_copies_70 (fun v23 => ?_)
  refine r_iast dX12_copies_71 (fun M24 => ?_)
  refine aj_aload_n (0) dX12_copies_72 rfl rfl ?_
  refine aj_getR (TX := TX12) zc12 (by decide) rfl (Or.inl zg_1389) dX12_copies_73 (fun r25 => ?_)
  refine aj_iload_n (1) dX12_copies_76 rfl rfl ?_
  refine aj_aload_n (0) dX12_copies_77 rfl rfl ?_
  refine aj_getR (TX := TX12) zc12 (by decide) rfl (Or.inl zg_1389) dX12_copies_78 (fun r26 => ?_)
  refine aj_iload_n (2) dX12_copies_81 rfl rfl ?_
  refine r_iald dX12_copies_82 (fun v27 => ?_)
  refine r_iast dX12_copies_83 (fun M28 => ?_)
  refine aj_aload_n (0) dX12_copies_84 rfl rfl ?_
  refine aj_getR (TX := TX12) zc12 (by decide) rfl (Or.inl zg_1390) dX12_copies_85 (fun r29 => ?_)
  refine aj_iload_n (1) dX12_copies_88 rfl rfl ?_
  refine aj_aload_n (0) dX12_copies_89 rfl rfl ?_
  refine aj_getR (TX := TX12) zc12 (by decide) rfl (Or.inl zg_1390) dX12_copies_90 (fun r30 => ?_)
  refine aj_iload_n (2) dX12_copies_93 rfl rfl ?_
  refine r_iald dX12_copies_94 (fun v31 => ?_)
  refine r_iast dX12_copies_95 (fun M32 => ?_)
  refine aj_iconst (v := (0 : Int32)) dX12_copies_96 (by decide) ?_
  refine aj_istore_n (ls2 := [(3, .int ((0 : Int32))), (0, .ref (p0)), (1, .int (x1)), (2, .int (x2))]) dX12_copies_97 rfl (Nat.le_of_ble_eq_true rfl) rfl ?_
  refine AJ.sub [1, 2, 3, 0] rfl ?_
  exact t_X12_copies_98 w S zfu (p0) (x1) (x2) ((0 : Int32)) M32
def gX12_isTrade (S : List (Nat × Nat)) (p0 : Nat) (x1 : Int32) (M : zM) : Option Int32 := (if x1 < 0 then some ((0 : Int32)) else zgR S M (p0) 12 66 3 (fun r1 => zaI S M 100 (r1) ((0 : Int32)) (fun v2 => (if v2 ≤ x1 then some ((0 : Int32)) else some ((1 : Int32))))))
set_option maxHeartbeats 4000000 in
set_option maxRecDepth 100000 in
theorem c_X12_isTrade (w : zWd) (S : List (Nat × Nat)) (p0 : Nat) (x1 : Int32) (M : zM) : CT (zfI S M) w 1 mX12_isTrade [.ref (p0), .int (x1)] (S, M) (gX12_isTrade S p0 x1 M) := by
  refine CT.of (by decide) (Nat.le_of_ble_eq_true rfl) ?_
  show AJ _ _ _ _ 0 [(0, .ref (p0)), (1, .int (x1))] [] _ _
  unfold gX12_isTrade
  refine aj_iload_n (1) dX12_isTrade_0 rfl rfl ?_
  refine aj_if_lt (tgt := 18) dX12_isTrade_1 (by decide) (fun h => ?_) (fun h => ?_)
  · refine aj_iconst (v := (0 : Int32)) dX12_isTrade_18 (by decide) ?_
    exact aj_iret dX12_isTrade_19 rfl (by decide +kernel) rfl
  refine aj_iload_n (1) dX12_isTrade_4 rfl rfl ?_
  refine aj_aload_n (0) dX12_isTrade_5 rfl rfl ?_
  refine aj_getR (TX := TX12) zc12 (by decide) rfl (Or.inl zg_1353) dX12_isTrade_6 (fun r1 => ?_)
  refine aj_iconst (v := (0 : Int32)) dX12_isTrade_9 (by decide) ?_
  refine r_iald dX12_isTrade_10 (fun v2 => ?_)
  refine aj_icmp_ge (tgt := 18) dX12_isTrade_11 (by decide) (fun h => ?_) (fun h => ?_)
  · refine aj_iconst (v := (0 : Int32)) dX12_isTrade_18 (by decide) ?_
    exact aj_iret dX12_isTrade_19 rfl (by decide +kernel) rfl
  refine aj_iconst (v := (1 : Int32)) dX12_isTrade_14 (by decide) ?_
  refine aj_goto (tgt := 19) dX12_isTrade_15 (by decide) ?_
  exact aj_iret dX12_isTrade_19 rfl (by decide +kernel) rfl
def gX12_isPlace (S : List (Nat × Nat)) (p0 : Nat) (x1 : Int32) (M : zM) : Option Int32 := (if x1 < 0 then some ((0 : Int32)) else zgR S M (p0) 12 66 3 (fun r1 => zaI S M 100 (r1) ((1 : Int32)) (fun v2 => (if v2 ≤ x1 then some ((0 : Int32)) else some ((1 : Int32))))))
set_option maxHeartbeats 4000000 in
set_option maxRecDepth 100000 in
theorem c_X12_isPlace (w : zWd) (S : List (Nat × Nat)) (p0 : Nat) (x1 : Int32) (M : zM) : CT (zfI S M) w 1 mX12_isPlace [.ref (p0), .int (x1)] (S, M) (gX12_isPlace S p0 x1 M) := by
  refine CT.of (by decide) (Nat.le_of_ble_eq_true rfl) ?_
  show AJ _ _ _ _ 0 [(0, .ref (p0)), (1, .int (x1))] [] _ _
  unfold gX12_isPlace
  refine aj_iload_n (1) dX12_isPlace_0 rfl rfl ?_
  refine aj_if_lt (tgt := 18) dX12_isPlace_1 (by decide) (fun h => ?_) (fun h => ?_)
  · refine aj_iconst (v := (0 : Int32)) dX12_isPlace_18 (by decide) ?_
    exact aj_iret dX12_isPlace_19 rfl (by decide +kernel) rfl
  refine aj_iload_n (1) dX12_isPlace_4 rfl rfl ?_
  refine aj_aload_n (0) dX12_isPlace_5 rfl rfl ?_
  refine aj_getR (TX := TX12) zc12 (by decide) rfl (Or.inl zg_1353) dX12_isPlace_6 (fun r1 => ?_)
  refine aj_iconst (v := (1 : Int32)) dX12_isPlace_9 (by decide) ?_
  refine r_iald dX12_isPlace_10 (fun v2 => ?_)
  refine aj_icmp_ge (tgt := 18) dX12_isPlace_11 (by decide) (fun h => ?_) (fun h => ?_)
  · refine aj_iconst (v := (0 : Int32)) dX12_isPlace_18 (by decide) ?_
    exact aj_iret dX12_isPlace_19 rfl (by decide +kernel) rfl
  refine aj_iconst (v := (1 : Int32)) dX12_isPlace_14 (by decide) ?_
  refine aj_goto (tgt := 19) dX12_isPlace_15 (by decide) ?_
  exact aj_iret dX12_isPlace_19 rfl (by decide +kernel) rfl
def gX12_isWork (S : List (Nat × Nat)) (p0 : Nat) (x1 : Int32) (M : zM) : Option Int32 := (if x1 < 0 then some ((0 : Int32)) else zgR S M (p0) 12 66 3 (fun r1 => zaI S M 100 (r1) ((3 : Int32)) (fun v2 => (if v2 ≤ x1 then some ((0 : Int32)) else some ((1 : Int32))))))
set_option maxHeartbeats 4000000 in
set_option maxRecDepth 100000 in
theorem c_X12_isWork (w : zWd) (S : List (Nat × Nat)) (p0 : Nat) (x1 : Int32) (M : zM) : CT (zfI S M) w 1 mX12_isWork [.ref (p0), .int (x1)] (S, M) (gX12_isWork S p0 x1 M) := by
  refine CT.of (by decide) (Nat.le_of_ble_eq_true rfl) ?_
  show AJ _ _ _ _ 0 [(0, .ref (p0)), (1, .int (x1))] [] _ _
  unfold gX12_isWork
  refine aj_iload_n (1) dX12_isWork_0 rfl rfl ?_
  refine aj_if_lt (tgt := 18) dX12_isWork_1 (by decide) (fun h => ?_) (fun h => ?_)
  · refine aj_iconst (v := (0 : Int32)) dX12_isWork_18 (by decide) ?_
    exact aj_iret dX12_isWork_19 rfl (by decide +kernel) rfl
  refine aj_iload_n (1) dX12_isWork_4 rfl rfl ?_
  refine aj_aload_n (0) dX12_isWork_5 rfl rfl ?_
  refine aj_getR (TX := TX12) zc12 (by decide) rfl (Or.inl zg_1353) dX12_isWork_6 (fun r1 => ?_)
  refine aj_iconst (v := (3 : Int32)) dX12_isWork_9 (by decide) ?_
  refine r_iald dX12_isWork_10 (fun v2 => ?_)
  refine aj_icmp_ge (tgt := 18) dX12_isWork_11 (by decide) (fun h => ?_) (fun h => ?_)
  · refine aj_iconst (v := (0 : Int32)) dX12_isWork_18 (by decide) ?_
    exact aj_iret dX12_isWork_19 rfl (by decide +kernel) rfl
  refine aj_iconst (v := (1 : Int32)) dX12_isWork_14 (by decide) ?_
  refine aj_goto (tgt := 19) dX12_isWork_15 (by decide) ?_
  exact aj_iret dX12_isWork_19 rfl (by decide +kernel) rfl
def gX12_isDone (S : List (Nat × Nat)) (p0 : Nat) (x1 : Int32) (x2 : Int32) (M : zM) : Option Int32 := zgR S M (p0) 12 66 44 (fun r1 => zaI S M 100 (r1) ((((5 : Int32) * x1) + x2)) (fun v2 => zgR S M (p0) 12 66 12 (fun r3 => zaI S M 100 (r3) (x2) (fun v4 => (if v2 < v4 then some ((0 : Int32)) else some ((1 : Int32)))))))
set_option maxHeartbeats 4000000 in
set_option maxRecDepth 100000 in
theorem c_X12_isDone (w : zWd) (S : List (Nat × Nat)) (p0 : Nat) (x1 : Int32) (x2 : Int32) (M : zM) : CT (zfI S M) w 1 mX12_isDone [.ref (p0), .int (x1), .int (x2)] (S, M) (gX12_isDone S p0 x1 x2 M) := by
  refine CT.of (by decide) (Nat.le_of_ble_eq_true rfl) ?_
  show AJ _ _ _ _ 0 [(0, .ref (p0)), (1, .int (x1)), (2, .int (x2))] [] _ _
  unfold gX12_isDone
  refine aj_aload_n (0) dX12_isDone_0 rfl rfl ?_
  refine aj_getR (TX := TX12) zc12 (by decide) rfl (Or.inl zg_1394) dX12_isDone_1 (fun r1 => ?_)
  refine aj_iconst (v := (5 : Int32)) dX12_isDone_4 (by decide) ?_
  refine aj_iload_n (1) dX12_isDone_5 rfl rfl ?_
  refine aj_imul dX12_isDone_6 ?_
  refine aj_iload_n (2) dX12_isDone_7 rfl rfl ?_
  refine aj_iadd dX12_isDone_8 ?_
  refine r_iald dX12_isDone_9 (fun v2 => ?_)
  refine aj_aload_n (0) dX12_isDone_10 rfl rfl ?_
  refine aj_getR (TX := TX12) zc12 (by decide) rfl (Or.inl zg_1362) dX12_isDone_11 (fun r3 => ?_)
  refine aj_iload_n (2) dX12_isDone_14 rfl rfl ?_
  refine r_iald dX12_isDone_15 (fun v4 => ?_)
  refine aj_icmp_lt (tgt := 23) dX12_isDone_16 (by decide) (fun h => ?_) (fun h => ?_)
  · refine aj_iconst (v := (0 : Int32)) dX12_isDone_23 (by decide) ?_
    exact aj_iret dX12_isDone_24 rfl (by decide +kernel) rfl
  refine aj_iconst (v := (1 : Int32)) dX12_isDone_19 (by decide) ?_
  refine aj_goto (tgt := 24) dX12_isDone_20 (by decide) ?_
  exact aj_iret dX12_isDone_24 rfl (by decide +kernel) rfl
def gX12_doneMany_4 (S : List (Nat × Nat)) : Nat → Nat → Int32 → Int32 → Int32 → zM → Option Int32
  | 0 => fun _ _ _ _ _ => none
  | n + 1 => fun p0 x1 x2 x3 M => zgR S M (p0) 12 66 3 (fun r1 => zaI S M 100 (r1) ((3 : Int32)) (fun v2 => (if v2 ≤ x3 then some (x2) else zrc S (p0) 12 66 ((gX12_isDone S (p0) (x1) (x3) M).bind (fun v3 => (if v3 = 0 then (gX12_doneMany_4 S   n) (p0) (x1) ((x2 + (0 : Int32))) ((x3 + (1 : Int32))) M else (gX12_doneMany_4 S   n) (p0) (x1) ((x2 + (1 : Int32))) ((x3 + (1 : Int32))) M))))))
set_option maxHeartbeats 4000000 in
set_option maxRecDepth 100000 in
theorem t_X12_doneMany_4 (w : zWd) (S : List (Nat × Nat)) (fu : Nat) : ∀ (p0 : Nat) (x1 : Int32) (x2 : Int32) (x3 : Int32) (M : zM), AJ (zfI S M) w 2 mX12_doneMany 4 [(0, .ref (p0)), (1, .int (x1)), (2, .int (x2)), (3, .int (x3))] [] (S, M) (gX12_doneMany_4 S fu p0 x1 x2 x3 M) := by
  induction fu with
  | zero => intro p0 x1 x2 x3 M; exact AJ.none
  | succ n ih =>
    intro p0 x1 x2 x3 M
    unfold gX12_doneMany_4
    refine aj_iload_n (3) dX12_doneMany_4 rfl rfl ?_
    refine aj_aload_n (0) dX12_doneMany_5 rfl rfl ?_
    refine aj_getR (TX := TX12) zc12 (by decide) rfl (Or.inl zg_1353) dX12_doneMany_6 (fun r1 => ?_)
    refine aj_iconst (v := (3 : Int32)) dX12_doneMany_9 (by decide) ?_
    refine r_iald dX12_doneMany_10 (fun v2 => ?_)
    refine aj_icmp_ge (tgt := 37) dX12_doneMany_11 (by decide) (fun h => ?_) (fun h => ?_)
    · refine aj_iload_n (2) dX12_doneMany_37 rfl rfl ?_
      exact aj_iret dX12_doneMany_38 rfl rfl rfl
    refine aj_iload_n (2) dX12_doneMany_14 rfl rfl ?_
    refine aj_aload_n (0) dX12_doneMany_15 rfl rfl ?_
    refine aj_iload_n (1) dX12_doneMany_16 rfl rfl ?_
    refine aj_iload_n (3) dX12_doneMany_17 rfl rfl ?_
    refine rV_I (as := [.int (x1), .int (x3)]) (c_X12_isDone w S _ _ _ _) mv_X12_isDone rfl zg_1739 (by decide) (Nat.le_of_ble_eq_true rfl) dX12_doneMany_18 (fun v3 => ?_)
    refine aj_if_eq (tgt := 28) dX12_doneMany_21 (by decide) (fun h => ?_) (fun h => ?_)
    · refine aj_iconst (v := (0 : Int32)) dX12_doneMany_28 (by decide) ?_
      refine aj_iadd dX12_doneMany_29 ?_
      refine aj_istore_n (ls2 := [(2, .int ((x2 + (0 : Int32)))), (0, .ref (p0)), (1, .int (x1)), (3, .int (x3))]) dX12_doneMany_30 rfl (Nat.le_of_ble_eq_true rfl) rfl ?_
      refine aj_iinc (j := 3) (v := (x3 + (1 : Int32))) (ls2 := [(3, .int ((x3 + (1 : Int32)))), (2, .int ((x2 + (0 : Int32)))), (0, .ref (p0)), (1, .int (x1))]) dX12_doneMany_31 rfl rfl (Nat.le_of_ble_eq_true rfl) rfl ?_
      refine aj_goto (tgt := 4) dX12_doneMany_34 (by decide) ?_
      refine AJ.sub [2, 3, 1, 0] rfl ?_
      exact ih (p0) (x1) ((x2 + (0 : Int32))) ((x3 + (1 : Int32))) M
    refine aj_iconst (v := (1 : Int32)) dX12_doneMany_24 (by decide) ?_
    refine aj_goto (tgt := 29) dX12_doneMany_25 (by decide) ?_
    refine aj_iadd dX12_doneMany_29 ?_
    refine aj_istore_n (ls2 := [(2, .int ((x2 + (1 : Int32)))), (0, .ref (p0)), (1, .int (x1)), (3, .int (x3))]) dX12_doneMany_30 rfl (Nat.le_of_ble_eq_true rfl) rfl ?_
    refine aj_iinc (j := 3) (v := (x3 + (1 : Int32))) (ls2 := [(3, .int ((x3 + (1 : Int32)))), (2, .int ((x2 + (1 : Int32)))), (0, .ref (p0)), (1, .int (x1))]) dX12_doneMany_31 rfl rfl (Nat.le_of_ble_eq_true rfl) rfl ?_
    refine aj_goto (tgt := 4) dX12_doneMany_34 (by decide) ?_
    refine AJ.sub [2, 3, 1, 0] rfl ?_
    exact ih (p0) (x1) ((x2 + (1 : Int32))) ((x3 + (1 : Int32))) M
def gX12_doneMany (S : List (Nat × Nat)) (p0 : Nat) (x1 : Int32) (M : zM) : Option Int32 := gX12_doneMany_4 S zfu (p0) (x1) ((0 : Int32)) ((0 : Int32)) M
set_option maxHeartbeats 4000000 in
set_option maxRecDepth 100000 in
theorem c_X12_doneMany (w : zWd) (S : List (Nat × Nat)) (p0 : Nat) (x1 : Int32) (M : zM) : CT (zfI S M) w 2 mX12_doneMany [.ref (p0), .int (x1)] (S, M) (gX12_doneMany S p0 x1 M) := by
  refine CT.of (by decide) (Nat.le_of_ble_eq_true rfl) ?_
  show AJ _ _ _ _ 0 [(0, .ref (p0)), (1, .int (x1))] [] _ _
  unfold gX12_doneMany
  refine aj_iconst (v := (0 : Int32)) dX12_doneMany_0 (by decide) ?_
  refine aj_istore_n (ls2 := [(2, .int ((0 : Int32))), (0, .ref (p0)), (1, .int (x1))]) dX12_doneMany_1 rfl (Nat.le_of_ble_eq_true rfl) rfl ?_
  refine aj_iconst (v := (0 : Int32)) dX12_doneMany_2 (by decide) ?_
  refine aj_istore_n (ls2 := [(3, .int ((0 : Int32))), (2, .int ((0 : Int32))), (0, .ref (p0)), (1, .int (x1))]) dX12_doneMany_3 rfl (Nat.le_of_ble_eq_true rfl) rfl ?_
  refine AJ.sub [2, 3, 1, 0] rfl ?_
  exact t_X12_doneMany_4 w S zfu (p0) (x1) ((0 : Int32)) ((0 : Int32)) M
def gX12_hourOf (S : List (Nat × Nat)) (p0 : Nat) (x1 : Int32) (M : zM) : Option Int32 := zgI S M (p0) 12 66 47 (fun v1 => (if v1 = (4 : Int32) then some ((0 : Int32)) else zgI S M (p0) 12 66 49 (fun v2 => (if x1 = v2 then zgI S M (p0) 12 66 50 (fun v5 => some (v5)) else zgR S M (p0) 12 66 5 (fun r3 => zaI S M 100 (r3) (x1) (fun v4 => some (v4)))))))
set_option maxHeartbeats 4000000 in
set_option maxRecDepth 100000 in
theorem c_X12_hourOf (w : zWd) (S : List (Nat × Nat)) (p0 : Nat) (x1 : Int32) (M : zM) : CT (zfI S M) w 1 mX12_hourOf [.ref (p0), .int (x1)] (S, M) (gX12_hourOf S p0 x1 M) := by
  refine CT.of (by decide) (Nat.le_of_ble_eq_true rfl) ?_
  show AJ _ _ _ _ 0 [(0, .ref (p0)), (1, .int (x1))] [] _ _
  unfold gX12_hourOf
  refine aj_aload_n (0) dX12_hourOf_0 rfl rfl ?_
  refine r_getI (TX := TX12) zc12 (by decide) rfl (Or.inl zg_1397) dX12_hourOf_1 (fun v1 => ?_)
  refine aj_iconst (v := (4 : Int32)) dX12_hourOf_4 (by decide) ?_
  refine aj_icmp_ne (tgt := 12) dX12_hourOf_5 (by decide) (fun h => ?_) (fun h => ?_)
  · refine aj_iload_n (1) dX12_hourOf_12 rfl rfl ?_
    refine aj_aload_n (0) dX12_hourOf_13 rfl rfl ?_
    refine r_getI (TX := TX12) zc12 (by decide) rfl (Or.inl zg_1399) dX12_hourOf_14 (fun v2 => ?_)
    refine aj_icmp_ne (tgt := 27) dX12_hourOf_17 (by decide) (fun h => ?_) (fun h => ?_)
    · refine aj_aload_n (0) dX12_hourOf_27 rfl rfl ?_
      refine aj_getR (TX := TX12) zc12 (by decide) rfl (Or.inl zg_1355) dX12_hourOf_28 (fun r3 => ?_)
      refine aj_iload_n (1) dX12_hourOf_31 rfl rfl ?_
      refine r_iald dX12_hourOf_32 (fun v4 => ?_)
      exact aj_iret dX12_hourOf_33 rfl rfl rfl
    refine aj_aload_n (0) dX12_hourOf_20 rfl rfl ?_
    refine r_getI (TX := TX12) zc12 (by decide) rfl (Or.inl zg_1400) dX12_hourOf_21 (fun v5 => ?_)
    refine aj_goto (tgt := 33) dX12_hourOf_24 (by decide) ?_
    exact aj_iret dX12_hourOf_33 rfl rfl rfl
  refine aj_iconst (v := (0 : Int32)) dX12_hourOf_8 (by decide) ?_
  refine aj_goto (tgt := 33) dX12_hourOf_9 (by decide) ?_
  exact aj_iret dX12_hourOf_33 rfl rfl rfl
def gX12_calls (S : List (Nat × Nat)) (p0 : Nat) (x1 : Int32) (x2 : Int32) (M : zM) : Option zM := zgR S M (p0) 12 66 30 (fun r1 => zrc S (p0) 12 66 ((gX12_hourOf S (p0) (x2) M).bind (fun v2 => zbL S M (r1) ((0 : Int32)) ((v2).toInt64) (fun M3 => zgR S M3 (p0) 12 66 30 (fun r4 => zgR S M3 (p0) 12 66 6 (fun r5 => zaI S M3 100 (r5) (x2) (fun v6 => zbL S M3 (r4) ((1 : Int32)) ((v6).toInt64) (fun M7 => zgR S M7 (p0) 12 66 30 (fun r8 => zgR S M7 (p0) 12 66 41 (fun r9 => zaI S M7 100 (r9) ((((6 : Int32) * x1) + x2)) (fun v10 => zbL S M7 (r8) ((2 : Int32)) ((v10).toInt64) (fun M11 => zgR S M11 (p0) 12 66 30 (fun r12 => zgR S M11 (p0) 12 66 42 (fun r13 => zaI S M11 100 (r13) ((((6 : Int32) * x1) + x2)) (fun v14 => zbL S M11 (r12) ((3 : Int32)) ((v14).toInt64) (fun M15 => zgR S M15 (p0) 12 66 30 (fun r16 => zgR S M15 (p0) 12 66 3 (fun r17 => zaI S M15 100 (r17) ((3 : Int32)) (fun v18 => zrc S (p0) 12 66 ((gX12_doneMany S (p0) (x1) M15).bind (fun v19 => zbL S M15 (r16) ((4 : Int32)) (((v18 - v19)).toInt64) (fun M20 => zgR S M20 (p0) 12 66 30 (fun r21 => zgR S M20 (p0) 12 66 39 (fun r22 => zaI S M20 100 (r22) (x1) (fun v23 => zbL S M20 (r21) ((5 : Int32)) ((v23).toInt64) (fun M24 => zgR S M24 (p0) 12 66 30 (fun r25 => zgR S M24 (p0) 12 66 33 (fun r26 => zaI S M24 100 (r26) (x1) (fun v27 => zbL S M24 (r25) ((6 : Int32)) ((v27).toInt64) (fun M28 => some M28))))))))))))))))))))))))))))))
set_option maxHeartbeats 4000000 in
set_option maxRecDepth 100000 in
theorem c_X12_calls (w : zWd) (S : List (Nat × Nat)) (p0 : Nat) (x1 : Int32) (x2 : Int32) (M : zM) : CT (zfVM S) w 3 mX12_calls [.ref (p0), .int (x1), .int (x2)] (S, M) (gX12_calls S p0 x1 x2 M) := by
  refine CT.of (by decide) (Nat.le_of_ble_eq_true rfl) ?_
  show AJ _ _ _ _ 0 [(0, .ref (p0)), (1, .int (x1)), (2, .int (x2))] [] _ _
  unfold gX12_calls
  refine aj_aload_n (0) dX12_calls_0 rfl rfl ?_
  refine aj_getR (TX := TX12) zc12 (by decide) rfl (Or.inl zg_1380) dX12_calls_1 (fun r1 => ?_)
  refine aj_iconst (v := (0 : Int32)) dX12_calls_4 (by decide) ?_
  refine aj_aload_n (0) dX12_calls_5 rfl rfl ?_
  refine aj_iload_n (2) dX12_calls_6 rfl rfl ?_
  refine rV_I (as := [.int (x2)]) (c_X12_hourOf w S _ _ _) mv_X12_hourOf rfl zg_1731 (by decide) (Nat.le_of_ble_eq_true rfl) dX12_calls_7 (fun v2 => ?_)
  refine aj_i2l dX12_calls_10 ?_
  refine r_last dX12_calls_11 (fun M3 => ?_)
  refine aj_aload_n (0) dX12_calls_12 rfl rfl ?_
  refine aj_getR (TX := TX12) zc12 (by decide) rfl (Or.inl zg_1380) dX12_calls_13 (fun r4 => ?_)
  refine aj_iconst (v := (1 : Int32)) dX12_calls_16 (by decide) ?_
  refine aj_aload_n (0) dX12_calls_17 rfl rfl ?_
  refine aj_getR (TX := TX12) zc12 (by decide) rfl (Or.inl zg_1356) dX12_calls_18 (fun r5 => ?_)
  refine aj_iload_n (2) dX12_calls_21 rfl rfl ?_
  refine r_iald dX12_calls_22 (fun v6 => ?_)
  refine aj_i2l dX12_calls_23 ?_
  refine r_last dX12_calls_24 (fun M7 => ?_)
  refine aj_aload_n (0) dX12_calls_25 rfl rfl ?_
  refine aj_getR (TX := TX12) zc12 (by decide) rfl (Or.inl zg_1380) dX12_calls_26 (fun r8 => ?_)
  refine aj_iconst (v := (2 : Int32)) dX12_calls_29 (by decide) ?_
  refine aj_aload_n (0) dX12_calls_30 rfl rfl ?_
  refine aj_getR (TX := TX12) zc12 (by decide) rfl (Or.inl zg_1391) dX12_calls_31 (fun r9 => ?_)
  refine aj_bipush (v := (6 : Int32)) dX12_calls_34 (by decide) ?_
  refine aj_iload_n (1) dX12_calls_36 rfl rfl ?_
  refine aj_imul dX12_calls_37 ?_
  refine aj_iload_n (2) dX12_calls_38 rfl rfl ?_
  refine aj_iadd dX12_calls_39 ?_
  refine r_iald dX12_calls_40 (fun v10 => ?_)
  refine aj_i2l dX12_calls_41 ?_
  refine r_last dX12_calls_42 (fun M11 => ?_)
  refine aj_aload_n (0) dX12_calls_43 rfl rfl ?_
  refine aj_getR (TX := TX12) zc12 (by decide) rfl (Or.inl zg_1380) dX12_calls_44 (fun r12 => ?_)
  refine aj_iconst (v := (3 : Int32)) dX12_calls_47 (by decide) ?_
  refine aj_aload_n (0) dX12_calls_48 rfl rfl ?_
  refine aj_getR (TX := TX12) zc12 (by decide) rfl (Or.inl zg_1392) dX12_calls_49 (fun r13 => ?_)
  refine aj_bipush (v := (6 : Int32)) dX12_calls_52 (by decide) ?_
  refine aj_iload_n (1) dX12_calls_54 rfl rfl ?_
  refine aj_imul dX12_calls_55 ?_
  refine aj_iload_n (2) dX12_calls_56 rfl rfl ?_
  refine aj_iadd dX12_calls_57 ?_
  refine r_iald dX12_calls_58 (fun v14 => ?_)
  refine aj_i2l dX12_calls_59 ?_
  refine r_last dX12_calls_60 (fun M15 => ?_)
  refine aj_aload_n (0) dX12_calls_61 rfl rfl ?_
  refine aj_getR (TX := TX12) zc12 (by decide) rfl (Or.inl zg_1380) dX12_calls_62 (fun r16 => ?_)
  refine aj_iconst (v := (4 : Int32)) dX12_calls_65 (by decide) ?_
  refine aj_aload_n (0) dX12_calls_66 rfl rfl ?_
  refine aj_getR (TX := TX12) zc12 (by decide) rfl (Or.inl zg_1353) dX12_calls_67 (fun r17 => ?_)
  refine aj_iconst (v := (3 : Int32)) dX12_calls_70 (by decide) ?_
  refine r_iald dX12_calls_71 (fun v18 => ?_)
  refine aj_aload_n (0) dX12_calls_72 rfl rfl ?_
  refine aj_iload_n (1) dX12_calls_73 rfl rfl ?_
  refine rV_I (as := [.int (x1)]) (c_X12_doneMany w S _ _ _) mv_X12_doneMany rfl zg_1735 (by decide) (Nat.le_of_ble_eq_true rfl) dX12_calls_74 (fun v19 => ?_)
  refine aj_isub dX12_calls_77 ?_
  refine aj_i2l dX12_calls_78 ?_
  refine r_last dX12_calls_79 (fun M20 => ?_)
  refine aj_aload_n (0) dX12_calls_80 rfl rfl ?_
  refine aj_getR (TX := TX12) zc12 (by decide) rfl (Or.inl zg_1380) dX12_calls_81 (fun r21 => ?_)
  refine aj_iconst (v := (5 : Int32)) dX12_calls_84 (by decide) ?_
  refine aj_aload_n (0) dX12_calls_85 rfl rfl ?_
  refine aj_getR (TX := TX12) zc12 (by decide) rfl (Or.inl zg_1389) dX12_calls_86 (fun r22 => ?_)
  refine aj_iload_n (1) dX12_calls_89 rfl rfl ?_
  refine r_iald dX12_calls_90 (fun v23 => ?_)
  refine aj_i2l dX12_calls_91 ?_
  refine r_last dX12_calls_92 (fun M24 => ?_)
  refine aj_aload_n (0) dX12_calls_93 rfl rfl ?_
  refine aj_getR (TX := TX12) zc12 (by decide) rfl (Or.inl zg_1380) dX12_calls_94 (fun r25 => ?_)
  refine aj_bipush (v := (6 : Int32)) dX12_calls_97 (by decide) ?_
  refine aj_aload_n (0) dX12_calls_99 rfl rfl ?_
  refine aj_getR (TX := TX12) zc12 (by decide) rfl (Or.inl zg_1383) dX12_calls_100 (fun r26 => ?_)
  refine aj_iload_n (1) dX12_calls_103 rfl rfl ?_
  refine r_iald dX12_calls_104 (fun v27 => ?_)
  refine aj_i2l dX12_calls_105 ?_
  refine r_last dX12_calls_106 (fun M28 => ?_)
  exact aj_vret dX12_calls_107 rfl rfl
def gX12_within (S : List (Nat × Nat)) (p0 : Nat) (x1 : Int32) (x2 : Int32) (x3 : Int32) (x4 : Int32) (M : zM) : Option (Int32 × zM) := zrc S (p0) 12 66 ((gX12_hasLaw S (p0) (x1) M).bind (fun v1 => (if v1 = 0 then some (x4, M) else zrc S (p0) 12 66 (zb2 (gX12_goes S (p0) (x1) M) (fun v2 M3 => (if v2 = 0 then some (x4, M3) else zgR S M3 (p0) 12 66 31 (fun r4 => zaL S M3 (r4) ((0 : Int32)) (fun w5 => some (((if (if w5 < (x3).toInt64 then w5 else (x3).toInt64) < (x2).toInt64 then (x2).toInt64 else (if w5 < (x3).toInt64 then w5 else (x3).toInt64))).toInt32, M3)))))))))
set_option maxHeartbeats 4000000 in
set_option maxRecDepth 100000 in
theorem c_X12_within (w : zWd) (S : List (Nat × Nat)) (p0 : Nat) (x1 : Int32) (x2 : Int32) (x3 : Int32) (x4 : Int32) (M : zM) : CT (zfIM S) w 4 mX12_within [.ref (p0), .int (x1), .int (x2), .int (x3), .int (x4)] (S, M) (gX12_within S p0 x1 x2 x3 x4 M) := by
  refine CT.of (by decide) (Nat.le_of_ble_eq_true rfl) ?_
  show AJ _ _ _ _ 0 [(0, .ref (p0)), (1, .int (x1)), (2, .int (x2)), (3, .int (x3)), (4, .int (x4))] [] _ _
  unfold gX12_within
  refine aj_aload_n (0) dX12_within_0 rfl rfl ?_
  refine aj_iload_n (1) dX12_within_1 rfl rfl ?_
  refine rV_I (as := [.int (x1)]) (c_X12_hasLaw w S _ _ _) mv_X12_hasLaw rfl zg_1722 (by decide) (Nat.le_of_ble_eq_true rfl) dX12_within_2 (fun v1 => ?_)
  refine aj_if_eq (tgt := 16) dX12_within_5 (by decide) (fun h => ?_) (fun h => ?_)
  · refine aj_iload (4) dX12_within_16 rfl ?_
    exact aj_iret dX12_within_18 rfl rfl rfl
  refine aj_aload_n (0) dX12_within_8 rfl rfl ?_
  refine aj_iload_n (1) dX12_within_9 rfl rfl ?_
  refine rV_IM (as := [.int (x1)]) (c_X12_goes w S _ _ _) mv_X12_goes rfl zg_1743 (by decide) (Nat.le_of_ble_eq_true rfl) dX12_within_10 (fun v2 M3 => ?_)
  refine aj_if_ne (tgt := 19) dX12_within_13 (by decide) (fun h => ?_) (fun h => ?_)
  · refine aj_iload_n (2) dX12_within_19 rfl rfl ?_
    refine aj_i2l dX12_within_20 ?_
    refine aj_iload_n (3) dX12_within_21 rfl rfl ?_
    refine aj_i2l dX12_within_22 ?_
    refine aj_aload_n (0) dX12_within_23 rfl rfl ?_
    refine aj_getR (TX := TX12) zc12 (by decide) rfl (Or.inl zg_1381) dX12_within_24 (fun r4 => ?_)
    refine aj_iconst (v := (0 : Int32)) dX12_within_27 (by decide) ?_
    refine r_lald dX12_within_28 (fun w5 => ?_)
    refine aj_mmin_long zg_1769 zg_897 zg_3 zg_898 (by decide) (Nat.le_of_ble_eq_true rfl) dX12_within_29 ?_
    refine aj_mmax_long zg_1770 zg_900 zg_3 zg_901 (by decide) (Nat.le_of_ble_eq_true rfl) dX12_within_32 ?_
    refine aj_l2i dX12_within_35 ?_
    exact aj_iret dX12_within_36 rfl rfl rfl
  refine aj_iload (4) dX12_within_16 rfl ?_
  exact aj_iret dX12_within_18 rfl rfl rfl
def gX12_lengthOf (S : List (Nat × Nat)) (p0 : Nat) (x1 : Int32) (x2 : Int32) (M : zM) : Option (Int32 × zM) := zrc S (p0) 12 66 ((gX12_calls S (p0) (x1) (x2) M).bind (fun M1 => zrc S (p0) 12 66 ((gX12_hourOf S (p0) (x2) M1).bind (fun v2 => zrc S (p0) 12 66 (zb2 (gX12_within S (p0) ((0 : Int32)) ((0 : Int32)) ((24 : Int32)) (((24 : Int32) - v2)) M1) (fun v3 M4 => some (v3, M4)))))))
set_option maxHeartbeats 4000000 in
set_option maxRecDepth 100000 in
theorem c_X12_lengthOf (w : zWd) (S : List (Nat × Nat)) (p0 : Nat) (x1 : Int32) (x2 : Int32) (M : zM) : CT (zfIM S) w 5 mX12_lengthOf [.ref (p0), .int (x1), .int (x2)] (S, M) (gX12_lengthOf S p0 x1 x2 M) := by
  refine CT.of (by decide) (Nat.le_of_ble_eq_true rfl) ?_
  show AJ _ _ _ _ 0 [(0, .ref (p0)), (1, .int (x1)), (2, .int (x2))] [] _ _
  unfold gX12_lengthOf
  refine aj_aload_n (0) dX12_lengthOf_0 rfl rfl ?_
  refine aj_iload_n (1) dX12_lengthOf_1 rfl rfl ?_
  refine aj_iload_n (2) dX12_lengthOf_2 rfl rfl ?_
  refine rV_VM (as := [.int (x1), .int (x2)]) (c_X12_calls w S _ _ _ _) mv_X12_calls rfl zg_1727 (by decide) (Nat.le_of_ble_eq_true rfl) dX12_lengthOf_3 (fun M1 => ?_)
  refine aj_aload_n (0) dX12_lengthOf_6 rfl rfl ?_
  refine aj_iconst (v := (0 : Int32)) dX12_lengthOf_7 (by decide) ?_
  refine aj_iconst (v := (0 : Int32)) dX12_lengthOf_8 (by decide) ?_
  refine aj_bipush (v := (24 : Int32)) dX12_lengthOf_9 (by decide) ?_
  refine aj_bipush (v := (24 : Int32)) dX12_lengthOf_11 (by decide) ?_
  refine aj_aload_n (0) dX12_lengthOf_13 rfl rfl ?_
  refine aj_iload_n (2) dX12_lengthOf_14 rfl rfl ?_
  refine rV_I (as := [.int (x2)]) (c_X12_hourOf w S _ _ _) mv_X12_hourOf rfl zg_1731 (by decide) (Nat.le_of_ble_eq_true rfl) dX12_lengthOf_15 (fun v2 => ?_)
  refine aj_isub dX12_lengthOf_18 ?_
  refine rV_IM (as := [.int ((0 : Int32)), .int ((0 : Int32)), .int ((24 : Int32)), .int (((24 : Int32) - v2))]) (c_X12_within w S _ _ _ _ _ _) mv_X12_within rfl zg_1765 (by decide) (Nat.le_of_ble_eq_true rfl) dX12_lengthOf_19 (fun v3 M4 => ?_)
  exact aj_iret dX12_lengthOf_22 rfl rfl rfl
def gX12_wills_18 (S : List (Nat × Nat)) (p0 : Nat) (x1 : Int32) (x2 : Int32) (M : zM) : Option (Int32 × zM) := zrc S (p0) 12 66 ((gX12_calls S (p0) (x1) (x2) M).bind (fun M1 => zrc S (p0) 12 66 ((gX12_hasLaw S (p0) ((2 : Int32)) M1).bind (fun v2 => (if v2 = 0 then some ((1 : Int32), M1) else zrc S (p0) 12 66 (zb2 (gX12_goes S (p0) ((2 : Int32)) M1) (fun v3 M4 => (if v3 = 0 then some ((1 : Int32), M4) else zgR S M4 (p0) 12 66 31 (fun r5 => zaL S M4 (r5) ((0 : Int32)) (fun w6 => (if (lg_cmp w6 (0 : Int64)) = 0 then some ((0 : Int32), M4) else some ((1 : Int32), M4))))))))))))
set_option maxHeartbeats 4000000 in
set_option maxRecDepth 100000 in
theorem t_X12_wills_18 (w : zWd) (S : List (Nat × Nat)) (p0 : Nat) (x1 : Int32) (x2 : Int32) (M : zM) : AJ (zfIM S) w 4 mX12_wills 18 [(0, .ref (p0)), (1, .int (x1)), (2, .int (x2))] [] (S, M) (gX12_wills_18 S p0 x1 x2 M) := by
  unfold gX12_wills_18
  refine aj_aload_n (0) dX12_wills_18 rfl rfl ?_
  refine aj_iload_n (1) dX12_wills_19 rfl rfl ?_
  refine aj_iload_n (2) dX12_wills_20 rfl rfl ?_
  refine rV_VM (as := [.int (x1), .int (x2)]) (c_X12_calls w S _ _ _ _) mv_X12_calls rfl zg_1727 (by decide) (Nat.le_of_ble_eq_true rfl) dX12_wills_21 (fun M1 => ?_)
  refine aj_aload_n (0) dX12_wills_24 rfl rfl ?_
  refine aj_iconst (v := (2 : Int32)) dX12_wills_25 (by decide) ?_
  refine rV_I (as := [.int ((2 : Int32))]) (c_X12_hasLaw w S _ _ _) mv_X12_hasLaw rfl zg_1722 (by decide) (Nat.le_of_ble_eq_true rfl) dX12_wills_26 (fun v2 => ?_)
  refine aj_if_eq (tgt := 51) dX12_wills_29 (by decide) (fun h => ?_) (fun h => ?_)
  · refine aj_iconst (v := (1 : Int32)) dX12_wills_51 (by decide) ?_
    refine aj_goto (tgt := 56) dX12_wills_52 (by decide) ?_
    exact aj_iret dX12_wills_56 rfl (by decide +kernel) rfl
  refine aj_aload_n (0) dX12_wills_32 rfl rfl ?_
  refine aj_iconst (v := (2 : Int32)) dX12_wills_33 (by decide) ?_
  refine rV_IM (as := [.int ((2 : Int32))]) (c_X12_goes w S _ _ _) mv_X12_goes rfl zg_1743 (by decide) (Nat.le_of_ble_eq_true rfl) dX12_wills_34 (fun v3 M4 => ?_)
  refine aj_if_eq (tgt := 51) dX12_wills_37 (by decide) (fun h => ?_) (fun h => ?_)
  · refine aj_iconst (v := (1 : Int32)) dX12_wills_51 (by decide) ?_
    refine aj_goto (tgt := 56) dX12_wills_52 (by decide) ?_
    exact aj_iret dX12_wills_56 rfl (by decide +kernel) rfl
  refine aj_aload_n (0) dX12_wills_40 rfl rfl ?_
  refine aj_getR (TX := TX12) zc12 (by decide) rfl (Or.inl zg_1381) dX12_wills_41 (fun r5 => ?_)
  refine aj_iconst (v := (0 : Int32)) dX12_wills_44 (by decide) ?_
  refine r_lald dX12_wills_45 (fun w6 => ?_)
  refine aj_lconst (v := (0 : Int64)) dX12_wills_46 (by decide) ?_
  refine aj_lcmp dX12_wills_47 ?_
  refine aj_if_eq (tgt := 55) dX12_wills_48 (by decide) (fun h => ?_) (fun h => ?_)
  · refine aj_iconst (v := (0 : Int32)) dX12_wills_55 (by decide) ?_
    exact aj_iret dX12_wills_56 rfl (by decide +kernel) rfl
  refine aj_iconst (v := (1 : Int32)) dX12_wills_51 (by decide) ?_
  refine aj_goto (tgt := 56) dX12_wills_52 (by decide) ?_
  exact aj_iret dX12_wills_56 rfl (by decide +kernel) rfl
def gX12_wills (S : List (Nat × Nat)) (p0 : Nat) (x1 : Int32) (x2 : Int32) (M : zM) : Option (Int32 × zM) := zgI S M (p0) 12 66 47 (fun v1 => (if v1 = (2 : Int32) then zgI S M (p0) 12 66 48 (fun v2 => (if x2 = v2 then some ((0 : Int32), M) else gX12_wills_18 S (p0) (x1) (x2) M)) else gX12_wills_18 S (p0) (x1) (x2) M))
set_option maxHeartbeats 4000000 in
set_option maxRecDepth 100000 in
theorem c_X12_wills (w : zWd) (S : List (Nat × Nat)) (p0 : Nat) (x1 : Int32) (x2 : Int32) (M : zM) : CT (zfIM S) w 4 mX12_wills [.ref (p0), .int (x1), .int (x2)] (S, M) (gX12_wills S p0 x1 x2 M) := by
  refine CT.of (by decide) (Nat.le_of_ble_eq_true rfl) ?_
  show AJ _ _ _ _ 0 [(0, .ref (p0)), (1, .int (x1)), (2, .int (x2))] [] _ _
  unfold gX12_wills
  refine aj_aload_n (0) dX12_wills_0 rfl rfl ?_
  refine r_getI (TX := TX12) zc12 (by decide) rfl (Or.inl zg_1397) dX12_wills_1 (fun v1 => ?_)
  refine aj_iconst (v := (2 : Int32)) dX12_wills_4 (by decide) ?_
  refine aj_icmp_ne (tgt := 18) dX12_wills_5 (by decide) (fun h => ?_) (fun h => ?_)
  · refine AJ.sub [0, 1, 2] rfl ?_
    exact t_X12_wills_18 w S (p0) (x1) (x2) M
  refine aj_iload_n (2) dX12_wills_8 rfl rfl ?_
  refine aj_aload_n (0) dX12_wills_9 rfl rfl ?_
  refine r_getI (TX := TX12) zc12 (by decide) rfl (Or.inl zg_1398) dX12_wills_10 (fun v2 => ?_)
  refine aj_icmp_ne (tgt := 18) dX12_wills_13 (by decide) (fun h => ?_) (fun h => ?_)
  · refine AJ.sub [0, 1, 2] rfl ?_
    exact t_X12_wills_18 w S (p0) (x1) (x2) M
  refine aj_iconst (v := (0 : Int32)) dX12_wills_16 (by decide) ?_
  exact aj_iret dX12_wills_17 rfl (by decide +kernel) rfl
def gX12_isMistake (S : List (Nat × Nat)) (p0 : Nat) (x1 : Int32) (x2 : Int32) (M : zM) : Option (Int32 × zM) := zgI S M (p0) 12 66 47 (fun v1 => (if v1 = (5 : Int32) then zgI S M (p0) 12 66 47 (fun v2 => (if v2 = (1 : Int32) then some ((1 : Int32), M) else some ((0 : Int32), M))) else zgI S M (p0) 12 66 47 (fun v3 => (if v3 = (1 : Int32) then zgI S M (p0) 12 66 47 (fun v12 => (if v12 = (1 : Int32) then some ((1 : Int32), M) else some ((0 : Int32), M))) else zgR S M (p0) 12 66 3 (fun r4 => zaI S M 100 (r4) ((4 : Int32)) (fun v5 => (if x2 = 0 then (if v5 < (50 : Int32) then some ((0 : Int32), M) else some ((1 : Int32), M)) else (if v5 = 0 then (if v5 < (50 : Int32) then some ((0 : Int32), M) else some ((1 : Int32), M)) else (if v5 = (100 : Int32) then (if v5 < (50 : Int32) then some ((0 : Int32), M) else some ((1 : Int32), M)) else zgR S M (p0) 12 66 34 (fun r6 => zgR S M (p0) 12 66 34 (fun r7 => zaI S M 100 (r7) (x1) (fun v8 => zbI S M (r6) (x1) ((((v8 * (1103515245 : Int32)) + (12345 : Int32)) &&& (2147483647 : Int32))) (fun M9 => zgR S M9 (p0) 12 66 34 (fun r10 => zaI S M9 100 (r10) (x1) (fun v11 => (if v5 ≤ ((v11 >>> ((16 : Int32) &&& 31)) - (v11 >>> ((16 : Int32) &&& 31)) / (100 : Int32) * (100 : Int32)) then some ((0 : Int32), M9) else some ((1 : Int32), M9)))))))))))))))))
set_option maxHeartbeats 4000000 in
set_option maxRecDepth 100000 in
theorem c_X12_isMistake (w : zWd) (S : List (Nat × Nat)) (p0 : Nat) (x1 : Int32) (x2 : Int32) (M : zM) : CT (zfIM S) w 1 mX12_isMistake [.ref (p0), .int (x1), .int (x2)] (S, M) (gX12_isMistake S p0 x1 x2 M) := by
  refine CT.of (by decide) (Nat.le_of_ble_eq_true rfl) ?_
  show AJ _ _ _ _ 0 [(0, .ref (p0)), (1, .int (x1)), (2, .int (x2))] [] _ _
  unfold gX12_isMistake
  refine aj_aload_n (0) dX12_isMistake_0 rfl rfl ?_
  refine r_getI (TX := TX12) zc12 (by decide) rfl (Or.inl zg_1397) dX12_isMistake_1 (fun v1 => ?_)
  refine aj_iconst (v := (5 : Int32)) dX12_isMistake_4 (by decide) ?_
  refine aj_icmp_eq (tgt := 16) dX12_isMistake_5 (by decide) (fun h => ?_) (fun h => ?_)
  · refine aj_aload_n (0) dX12_isMistake_16 rfl rfl ?_
    refine r_getI (TX := TX12) zc12 (by decide) rfl (Or.inl zg_1397) dX12_isMistake_17 (fun v2 => ?_)
    refine aj_iconst (v := (1 : Int32)) dX12_isMistake_20 (by decide) ?_
    refine aj_icmp_ne (tgt := 28) dX12_isMistake_21 (by decide) (fun h => ?_) (fun h => ?_)
    · refine aj_iconst (v := (0 : Int32)) dX12_isMistake_28 (by decide) ?_
      exact aj_iret dX12_isMistake_29 rfl (by decide +kernel) rfl
    refine aj_iconst (v := (1 : Int32)) dX12_isMistake_24 (by decide) ?_
    refine aj_goto (tgt := 29) dX12_isMistake_25 (by decide) ?_
    exact aj_iret dX12_isMistake_29 rfl (by decide +kernel) rfl
  refine aj_aload_n (0) dX12_isMistake_8 rfl rfl ?_
  refine r_getI (TX := TX12) zc12 (by decide) rfl (Or.inl zg_1397) dX12_isMistake_9 (fun v3 => ?_)
  refine aj_iconst (v := (1 : Int32)) dX12_isMistake_12 (by decide) ?_
  refine aj_icmp_ne (tgt := 30) dX12_isMistake_13 (by decide) (fun h => ?_) (fun h => ?_)
  · refine aj_aload_n (0) dX12_isMistake_30 rfl rfl ?_
    refine aj_getR (TX := TX12) zc12 (by decide) rfl (Or.inl zg_1353) dX12_isMistake_31 (fun r4 => ?_)
    refine aj_iconst (v := (4 : Int32)) dX12_isMistake_34 (by decide) ?_
    refine r_iald dX12_isMistake_35 (fun v5 => ?_)
    refine aj_istore_n (ls2 := [(3, .int (v5)), (0, .ref (p0)), (1, .int (x1)), (2, .int (x2))]) dX12_isMistake_36 rfl (Nat.le_of_ble_eq_true rfl) rfl ?_
    refine aj_iload_n (3) dX12_isMistake_37 rfl rfl ?_
    refine aj_if_eq (tgt := 51) dX12_isMistake_38 (by decide) (fun h => ?_) (fun h => ?_)
    · refine aj_iload_n (0) dX12_isMistake_51 rfl rfl ?_
      refine aj_bipush (v := (50 : Int32)) dX12_isMistake_52 (by decide) ?_
      refine aj_icmp_lt (tgt := 61) dX12_isMistake_54 (by decide) (fun h => ?_) (fun h => ?_)
      · refine aj_iconst (v := (0 : Int32)) dX12_isMistake_61 (by decide) ?_
        exact aj_iret dX12_isMistake_62 rfl (by decide +kernel) rfl
      refine aj_iconst (v := (1 : Int32)) dX12_isMistake_57 (by decide) ?_
      refine aj_goto (tgt := 62) dX12_isMistake_58 (by decide) ?_
      exact aj_iret dX12_isMistake_62 rfl (by decide +kernel) rfl
    refine aj_iload_n (0) dX12_isMistake_41 rfl rfl ?_
    refine aj_if_eq (tgt := 51) dX12_isMistake_42 (by decide) (fun h => ?_) (fun h => ?_)
    · refine aj_iload_n (0) dX12_isMistake_51 rfl rfl ?_
      refine aj_bipush (v := (50 : Int32)) dX12_isMistake_52 (by decide) ?_
      refine aj_icmp_lt (tgt := 61) dX12_isMistake_54 (by decide) (fun h => ?_) (fun h => ?_)
      · refine aj_iconst (v := (0 : Int32)) dX12_isMistake_61 (by decide) ?_
        exact aj_iret dX12_isMistake_62 rfl (by decide +kernel) rfl
      refine aj_iconst (v := (1 : Int32)) dX12_isMistake_57 (by decide) ?_
      refine aj_goto (tgt := 62) dX12_isMistake_58 (by decide) ?_
      exact aj_iret dX12_isMistake_62 rfl (by decide +kernel) rfl
    refine aj_iload_n (0) dX12_isMistake_45 rfl rfl ?_
    refine aj_bipush (v := (100 : Int32)) dX12_isMistake_46 (by decide) ?_
    refine aj_icmp_ne (tgt := 63) dX12_isMistake_48 (by decide) (fun h => ?_) (fun h => ?_)
    · refine aj_aload_n (1) dX12_isMistake_63 rfl rfl ?_
      refine aj_getR (TX := TX12) zc12 (by decide) rfl (Or.inl zg_1384) dX12_isMistake_64 (fun r6 => ?_)
      refine aj_iload_n (2) dX12_isMistake_67 rfl rfl ?_
      refine aj_aload_n (1) dX12_isMistake_68 rfl rfl ?_
      refine aj_getR (TX := TX12) zc12 (by decide) rfl (Or.inl zg_1384) dX12_isMistake_69 (fun r7 => ?_)
      refine aj_iload_n (2) dX12_isMistake_72 rfl rfl ?_
      refine r_iald dX12_isMistake_73 (fun v8 => ?_)
      refine aj_ldcw (v := (1103515245 : Int32)) dX12_isMistake_74 zg_1811 ?_
      refine aj_imul dX12_isMistake_77 ?_
      refine aj_sipush (v := (12345 : Int32)) dX12_isMistake_78 (by decide) ?_
      refine aj_iadd dX12_isMistake_81 ?_
      refine aj_ldcw (v := (2147483647 : Int32)) dX12_isMistake_82 zg_1812 ?_
      refine aj_iand dX12_isMistake_85 ?_
      refine r_iast dX12_isMistake_86 (fun M9 => ?_)
      refine aj_aload_n (1) dX12_isMistake_87 rfl rfl ?_
      refine aj_getR (TX := TX12) zc12 (by decide) rfl (Or.inl zg_1384) dX12_isMistake_88 (fun r10 => ?_)
      refine aj_iload_n (2) dX12_isMistake_91 rfl rfl ?_
      refine r_iald dX12_isMistake_92 (fun v11 => ?_)
      refine aj_bipush (v := (16 : Int32)) dX12_isMistake_93 (by decide) ?_
      refine aj_ishr dX12_isMistake_95 ?_
      refine aj_bipush (v := (100 : Int32)) dX12_isMistake_96 (by decide) ?_
      refine aj_iremc dX12_isMistake_98 (by decide) ?_
      refine aj_iload_n (0) dX12_isMistake_99 rfl rfl ?_
      refine aj_icmp_ge (tgt := 107) dX12_isMistake_100 (by decide) (fun h => ?_) (fun h => ?_)
      · refine aj_iconst (v := (0 : Int32)) dX12_isMistake_107 (by decide) ?_
        exact aj_iret dX12_isMistake_108 rfl (by decide +kernel) rfl
      refine aj_iconst (v := (1 : Int32)) dX12_isMistake_103 (by decide) ?_
      refine aj_goto (tgt := 108) dX12_isMistake_104 (by decide) ?_
      exact aj_iret dX12_isMistake_108 rfl (by decide +kernel) rfl
    refine aj_iload_n (0) dX12_isMistake_51 rfl rfl ?_
    refine aj_bipush (v := (50 : Int32)) dX12_isMistake_52 (by decide) ?_
    refine aj_icmp_lt (tgt := 61) dX12_isMistake_54 (by decide) (fun h => ?_) (fun h => ?_)
    · refine aj_iconst (v := (0 : Int32)) dX12_isMistake_61 (by decide) ?_
      exact aj_iret dX12_isMistake_62 rfl (by decide +kernel) rfl
    refine aj_iconst (v := (1 : Int32)) dX12_isMistake_57 (by decide) ?_
    refine aj_goto (tgt := 62) dX12_isMistake_58 (by decide) ?_
    exact aj_iret dX12_isMistake_62 rfl (by decide +kernel) rfl
  refine aj_aload_n (0) dX12_isMistake_16 rfl rfl ?_
  refine r_getI (TX := TX12) zc12 (by decide) rfl (Or.inl zg_1397) dX12_isMistake_17 (fun v12 => ?_)
  refine aj_iconst (v := (1 : Int32)) dX12_isMistake_20 (by decide) ?_
  refine aj_icmp_ne (tgt := 28) dX12_isMistake_21 (by decide) (fun h => ?_) (fun h => ?_)
  · refine aj_iconst (v := (0 : Int32)) dX12_isMistake_28 (by decide) ?_
    exact aj_iret dX12_isMistake_29 rfl (by decide +kernel) rfl
  refine aj_iconst (v := (1 : Int32)) dX12_isMistake_24 (by decide) ?_
  refine aj_goto (tgt := 29) dX12_isMistake_25 (by decide) ?_
  exact aj_iret dX12_isMistake_29 rfl (by decide +kernel) rfl
def gX12_byTurn_51 (S : List (Nat × Nat)) : Nat → Nat → Int32 → Int32 → Int32 → zM → Option (Int32 × zM)
  | 0 => fun _ _ _ _ _ => none
  | n + 1 => fun p0 x1 x3 x4 M => (if x3 ≤ x4 then some ((-1 : Int32), M) else zgR S M (p0) 12 66 35 (fun r1 => zaI S M 100 (r1) (x1) (fun v2 => (if x3 = 0 then none else zgR S M (p0) 12 66 43 (fun r3 => zaI S M 100 (r3) ((((12 : Int32) * x1) + ((v2 + x4) - (v2 + x4) / x3 * x3))) (fun v4 => zrc S (p0) 12 66 (zb2 (gX12_wills S (p0) (x1) (v4) M) (fun v5 M6 => (if v5 = 0 then (gX12_byTurn_51 S   n) (p0) (x1) (x3) ((x4 + (1 : Int32))) M6 else zgR S M6 (p0) 12 66 35 (fun r7 => (if x3 = 0 then none else zbI S M6 (r7) (x1) (((((v2 + x4) - (v2 + x4) / x3 * x3) + (1 : Int32)) - (((v2 + x4) - (v2 + x4) / x3 * x3) + (1 : Int32)) / x3 * x3)) (fun M8 => zgR S M8 (p0) 12 66 43 (fun r9 => zaI S M8 100 (r9) ((((12 : Int32) * x1) + ((v2 + x4) - (v2 + x4) / x3 * x3))) (fun v10 => some (v10, M8)))))))))))))))
set_option maxHeartbeats 4000000 in
set_option maxRecDepth 100000 in
theorem t_X12_byTurn_51 (w : zWd) (S : List (Nat × Nat)) (fu : Nat) : ∀ (p0 : Nat) (x1 : Int32) (x3 : Int32) (x4 : Int32) (M : zM), AJ (zfIM S) w 5 mX12_byTurn 51 [(0, .ref (p0)), (1, .int (x1)), (3, .int (x3)), (4, .int (x4))] [] (S, M) (gX12_byTurn_51 S fu p0 x1 x3 x4 M) := by
  induction fu with
  | zero => intro p0 x1 x3 x4 M; exact AJ.none
  | succ n ih =>
    intro p0 x1 x3 x4 M
    unfold gX12_byTurn_51
    refine aj_iload (3) dX12_byTurn_51 rfl ?_
    refine aj_iload_n (2) dX12_byTurn_53 rfl rfl ?_
    refine aj_icmp_ge (tgt := 124) dX12_byTurn_54 (by decide) (fun h => ?_) (fun h => ?_)
    · refine aj_iconst (v := (-1 : Int32)) dX12_byTurn_124 (by decide) ?_
      exact aj_iret dX12_byTurn_125 rfl rfl rfl
    refine aj_aload_n (0) dX12_byTurn_57 rfl rfl ?_
    refine aj_getR (TX := TX12) zc12 (by decide) rfl (Or.inl zg_1385) dX12_byTurn_58 (fun r1 => ?_)
    refine aj_iload_n (1) dX12_byTurn_61 rfl rfl ?_
    refine r_iald dX12_byTurn_62 (fun v2 => ?_)
    refine aj_iload (3) dX12_byTurn_63 rfl ?_
    refine aj_iadd dX12_byTurn_65 ?_
    refine aj_iload_n (2) dX12_byTurn_66 rfl rfl ?_
    refine aj_irem dX12_byTurn_67 ?_
    refine aj_istore (ls2 := [(5, .int (((v2 + x4) - (v2 + x4) / x3 * x3))), (0, .ref (p0)), (1, .int (x1)), (3, .int (x3)), (4, .int (x4))]) dX12_byTurn_68 (Nat.le_of_ble_eq_true rfl) rfl ?_
    refine aj_aload_n (1) dX12_byTurn_70 rfl rfl ?_
    refine aj_iload_n (2) dX12_byTurn_71 rfl rfl ?_
    refine aj_aload_n (1) dX12_byTurn_72 rfl rfl ?_
    refine aj_getR (TX := TX12) zc12 (by decide) rfl (Or.inl zg_1393) dX12_byTurn_73 (fun r3 => ?_)
    refine aj_bipush (v := (12 : Int32)) dX12_byTurn_76 (by decide) ?_
    refine aj_iload_n (2) dX12_byTurn_78 rfl rfl ?_
    refine aj_imul dX12_byTurn_79 ?_
    refine aj_iload (0) dX12_byTurn_80 rfl ?_
    refine aj_iadd dX12_byTurn_82 ?_
    refine r_iald dX12_byTurn_83 (fun v4 => ?_)
    refine rV_IM (as := [.int (x1), .int (v4)]) (c_X12_wills w S _ _ _ _) mv_X12_wills rfl zg_1813 (by decide) (Nat.le_of_ble_eq_true rfl) dX12_byTurn_84 (fun v5 M6 => ?_)
    refine aj_if_ne (tgt := 93) dX12_byTurn_87 (by decide) (fun h => ?_) (fun h => ?_)
    · refine aj_aload_n (1) dX12_byTurn_93 rfl rfl ?_
      refine aj_getR (TX := TX12) zc12 (by decide) rfl (Or.inl zg_1385) dX12_byTurn_94 (fun r7 => ?_)
      refine aj_iload_n (2) dX12_byTurn_97 rfl rfl ?_
      refine aj_iload (0) dX12_byTurn_98 rfl ?_
      refine aj_iconst (v := (1 : Int32)) dX12_byTurn_100 (by decide) ?_
      refine aj_iadd dX12_byTurn_101 ?_
      refine aj_iload_n (3) dX12_byTurn_102 rfl rfl ?_
      refine aj_irem dX12_byTurn_103 ?_
      refine r_iast dX12_byTurn_104 (fun M8 => ?_)
      refine aj_aload_n (1) dX12_byTurn_105 rfl rfl ?_
      refine aj_getR (TX := TX12) zc12 (by decide) rfl (Or.inl zg_1393) dX12_byTurn_106 (fun r9 => ?_)
      refine aj_bipush (v := (12 : Int32)) dX12_byTurn_109 (by decide) ?_
      refine aj_iload_n (2) dX12_byTurn_111 rfl rfl ?_
      refine aj_imul dX12_byTurn_112 ?_
      refine aj_iload (0) dX12_byTurn_113 rfl ?_
      refine aj_iadd dX12_byTurn_115 ?_
      refine r_iald dX12_byTurn_116 (fun v10 => ?_)
      exact aj_iret dX12_byTurn_117 rfl rfl rfl
    refine aj_goto (tgt := 118) dX12_byTurn_90 (by decide) ?_
    refine aj_iinc (j := 4) (v := (x4 + (1 : Int32))) (ls2 := [(4, .int ((x4 + (1 : Int32)))), (5, .int (((v2 + x4) - (v2 + x4) / x3 * x3))), (0, .ref (p0)), (1, .int (x1)), (3, .int (x3))]) dX12_byTurn_118 rfl rfl (Nat.le_of_ble_eq_true rfl) rfl ?_
    refine aj_goto (tgt := 51) dX12_byTurn_121 (by decide) ?_
    refine AJ.sub [2, 3, 4, 0] rfl ?_
    exact ih (p0) (x1) (x3) ((x4 + (1 : Int32))) M6
def gX12_byTurn (S : List (Nat × Nat)) (p0 : Nat) (x1 : Int32) (x2 : Int32) (M : zM) : Option (Int32 × zM) := zgR S M (p0) 12 66 3 (fun r1 => zaI S M 100 (r1) ((1 : Int32)) (fun v2 => (if v2 = 0 then some ((-1 : Int32), M) else zrc S (p0) 12 66 (zb2 (gX12_isMistake S (p0) (x1) (x2) M) (fun v3 M4 => (if v3 = 0 then gX12_byTurn_51 S zfu (p0) (x1) (v2) ((0 : Int32)) M4 else zgR S M4 (p0) 12 66 37 (fun r5 => zaI S M4 100 (r5) (x1) (fun v6 => zbI S M4 (r5) (x1) ((v6 + (1 : Int32))) (fun M7 => zgR S M7 (p0) 12 66 35 (fun r8 => zgR S M7 (p0) 12 66 35 (fun r9 => zaI S M7 100 (r9) (x1) (fun v10 => (if v2 = 0 then none else zbI S M7 (r8) (x1) (((v10 + (1 : Int32)) - (v10 + (1 : Int32)) / v2 * v2)) (fun M11 => gX12_byTurn_51 S zfu (p0) (x1) (v2) ((0 : Int32)) M11))))))))))))))
set_option maxHeartbeats 4000000 in
set_option maxRecDepth 100000 in
theorem c_X12_byTurn (w : zWd) (S : List (Nat × Nat)) (p0 : Nat) (x1 : Int32) (x2 : Int32) (M : zM) : CT (zfIM S) w 5 mX12_byTurn [.ref (p0), .int (x1), .int (x2)] (S, M) (gX12_byTurn S p0 x1 x2 M) := by
  refine CT.of (by decide) (Nat.le_of_ble_eq_true rfl) ?_
  show AJ _ _ _ _ 0 [(0, .ref (p0)), (1, .int (x1)), (2, .int (x2))] [] _ _
  unfold gX12_byTurn
  refine aj_aload_n (0) dX12_byTurn_0 rfl rfl ?_
  refine aj_getR (TX := TX12) zc12 (by decide) rfl (Or.inl zg_1353) dX12_byTurn_1 (fun r1 => ?_)
  refine aj_iconst (v := (1 : Int32)) dX12_byTurn_4 (by decide) ?_
  refine r_iald dX12_byTurn_5 (fun v2 => ?_)
  refine aj_istore_n (ls2 := [(3, .int (v2)), (0, .ref (p0)), (1, .int (x1)), (2, .int (x2))]) dX12_byTurn_6 rfl (Nat.le_of_ble_eq_true rfl) rfl ?_
  refine aj_iload_n (0) dX12_byTurn_7 rfl rfl ?_
  refine aj_if_ne (tgt := 13) dX12_byTurn_8 (by decide) (fun h => ?_) (fun h => ?_)
  · refine aj_aload_n (1) dX12_byTurn_13 rfl rfl ?_
    refine aj_iload_n (2) dX12_byTurn_14 rfl rfl ?_
    refine aj_iload_n (3) dX12_byTurn_15 rfl rfl ?_
    refine rV_IM (as := [.int (x1), .int (x2)]) (c_X12_isMistake w S _ _ _ _) mv_X12_isMistake rfl zg_1807 (by decide) (Nat.le_of_ble_eq_true rfl) dX12_byTurn_16 (fun v3 M4 => ?_)
    refine aj_if_eq (tgt := 48) dX12_byTurn_19 (by decide) (fun h => ?_) (fun h => ?_)
    · refine aj_iconst (v := (0 : Int32)) dX12_byTurn_48 (by decide) ?_
      refine aj_istore (ls2 := [(4, .int ((0 : Int32))), (3, .int (v2)), (0, .ref (p0)), (1, .int (x1)), (2, .int (x2))]) dX12_byTurn_49 (Nat.le_of_ble_eq_true rfl) rfl ?_
      refine AJ.sub [2, 3, 1, 0] rfl ?_
      exact t_X12_byTurn_51 w S zfu (p0) (x1) (v2) ((0 : Int32)) M4
    refine aj_aload_n (1) dX12_byTurn_22 rfl rfl ?_
    refine aj_getR (TX := TX12) zc12 (by decide) rfl (Or.inl zg_1387) dX12_byTurn_23 (fun r5 => ?_)
    refine aj_iload_n (2) dX12_byTurn_26 rfl rfl ?_
    refine aj_dup2 dX12_byTurn_27 rfl rfl ?_
    refine r_iald dX12_byTurn_28 (fun v6 => ?_)
    refine aj_iconst (v := (1 : Int32)) dX12_byTurn_29 (by decide) ?_
    refine aj_iadd dX12_byTurn_30 ?_
    refine r_iast dX12_byTurn_31 (fun M7 => ?_)
    refine aj_aload_n (1) dX12_byTurn_32 rfl rfl ?_
    refine aj_getR (TX := TX12) zc12 (by decide) rfl (Or.inl zg_1385) dX12_byTurn_33 (fun r8 => ?_)
    refine aj_iload_n (2) dX12_byTurn_36 rfl rfl ?_
    refine aj_aload_n (1) dX12_byTurn_37 rfl rfl ?_
    refine aj_getR (TX := TX12) zc12 (by decide) rfl (Or.inl zg_1385) dX12_byTurn_38 (fun r9 => ?_)
    refine aj_iload_n (2) dX12_byTurn_41 rfl rfl ?_
    refine r_iald dX12_byTurn_42 (fun v10 => ?_)
    refine aj_iconst (v := (1 : Int32)) dX12_byTurn_43 (by decide) ?_
    refine aj_iadd dX12_byTurn_44 ?_
    refine aj_iload_n (0) dX12_byTurn_45 rfl rfl ?_
    refine aj_irem dX12_byTurn_46 ?_
    refine r_iast dX12_byTurn_47 (fun M11 => ?_)
    refine aj_iconst (v := (0 : Int32)) dX12_byTurn_48 (by decide) ?_
    refine aj_istore (ls2 := [(4, .int ((0 : Int32))), (3, .int (v2)), (0, .ref (p0)), (1, .int (x1)), (2, .int (x2))]) dX12_byTurn_49 (Nat.le_of_ble_eq_true rfl) rfl ?_
    refine AJ.sub [2, 3, 1, 0] rfl ?_
    exact t_X12_byTurn_51 w S zfu (p0) (x1) (v2) ((0 : Int32)) M11
  refine aj_iconst (v := (-1 : Int32)) dX12_byTurn_11 (by decide) ?_
  exact aj_iret dX12_byTurn_12 rfl rfl rfl
def gX12_whoOpens (S : List (Nat × Nat)) (p0 : Nat) (x1 : Int32) (x2 : Int32) (M : zM) : Option (Int32 × zM) := zgR S M (p0) 12 66 36 (fun r1 => zaI S M 100 (r1) (x1) (fun v2 => (if v2 = (-1 : Int32) then zgR S M (p0) 12 66 33 (fun r3 => zaI S M 100 (r3) (x1) (fun v4 => (if (100 : Int32) ≤ v4 then zrc S (p0) 12 66 (zb2 (gX12_byTurn S (p0) (x1) (x2) M) (fun v5 M6 => some (v5, M6))) else zgR S M (p0) 12 66 8 (fun r7 => zgR S M (p0) 12 66 33 (fun r8 => zaI S M 100 (r8) (x1) (fun v9 => zaI S M 100 (r7) (v9) (fun v10 => (if v10 = (-1 : Int32) then zrc S (p0) 12 66 (zb2 (gX12_byTurn S (p0) (x1) (x2) M) (fun v11 M12 => some (v11, M12))) else zgI S M (p0) 12 66 47 (fun v13 => (if v13 = (3 : Int32) then zrc S (p0) 12 66 (zb2 (gX12_byTurn S (p0) (x1) (x2) M) (fun v14 M15 => some (v14, M15))) else zgR S M (p0) 12 66 8 (fun r16 => zgR S M (p0) 12 66 33 (fun r17 => zaI S M 100 (r17) (x1) (fun v18 => zaI S M 100 (r16) (v18) (fun v19 => some (v19, M))))))))))))))) else zgR S M (p0) 12 66 36 (fun r20 => zaI S M 100 (r20) (x1) (fun v21 => some (v21, M))))))
set_option maxHeartbeats 4000000 in
set_option maxRecDepth 100000 in
theorem c_X12_whoOpens (w : zWd) (S : List (Nat × Nat)) (p0 : Nat) (x1 : Int32) (x2 : Int32) (M : zM) : CT (zfIM S) w 6 mX12_whoOpens [.ref (p0), .int (x1), .int (x2)] (S, M) (gX12_whoOpens S p0 x1 x2 M) := by
  refine CT.of (by decide) (Nat.le_of_ble_eq_true rfl) ?_
  show AJ _ _ _ _ 0 [(0, .ref (p0)), (1, .int (x1)), (2, .int (x2))] [] _ _
  unfold gX12_whoOpens
  refine aj_aload_n (0) dX12_whoOpens_0 rfl rfl ?_
  refine aj_getR (TX := TX12) zc12 (by decide) rfl (Or.inl zg_1386) dX12_whoOpens_1 (fun r1 => ?_)
  refine aj_iload_n (1) dX12_whoOpens_4 rfl rfl ?_
  refine r_iald dX12_whoOpens_5 (fun v2 => ?_)
  refine aj_iconst (v := (-1 : Int32)) dX12_whoOpens_6 (by decide) ?_
  refine aj_icmp_eq (tgt := 17) dX12_whoOpens_7 (by decide) (fun h => ?_) (fun h => ?_)
  · refine aj_aload_n (0) dX12_whoOpens_17 rfl rfl ?_
    refine aj_getR (TX := TX12) zc12 (by decide) rfl (Or.inl zg_1383) dX12_whoOpens_18 (fun r3 => ?_)
    refine aj_iload_n (1) dX12_whoOpens_21 rfl rfl ?_
    refine r_iald dX12_whoOpens_22 (fun v4 => ?_)
    refine aj_bipush (v := (100 : Int32)) dX12_whoOpens_23 (by decide) ?_
    refine aj_icmp_ge (tgt := 63) dX12_whoOpens_25 (by decide) (fun h => ?_) (fun h => ?_)
    · refine aj_aload_n (0) dX12_whoOpens_63 rfl rfl ?_
      refine aj_iload_n (1) dX12_whoOpens_64 rfl rfl ?_
      refine aj_iload_n (2) dX12_whoOpens_65 rfl rfl ?_
      refine rV_IM (as := [.int (x1), .int (x2)]) (c_X12_byTurn w S _ _ _ _) mv_X12_byTurn rfl zg_1803 (by decide) (Nat.le_of_ble_eq_true rfl) dX12_whoOpens_66 (fun v5 M6 => ?_)
      exact aj_iret dX12_whoOpens_69 rfl rfl rfl
    refine aj_aload_n (0) dX12_whoOpens_28 rfl rfl ?_
    refine aj_getR (TX := TX12) zc12 (by decide) rfl (Or.inl zg_1358) dX12_whoOpens_29 (fun r7 => ?_)
    refine aj_aload_n (0) dX12_whoOpens_32 rfl rfl ?_
    refine aj_getR (TX := TX12) zc12 (by decide) rfl (Or.inl zg_1383) dX12_whoOpens_33 (fun r8 => ?_)
    refine aj_iload_n (1) dX12_whoOpens_36 rfl rfl ?_
    refine r_iald dX12_whoOpens_37 (fun v9 => ?_)
    refine r_iald dX12_whoOpens_38 (fun v10 => ?_)
    refine aj_iconst (v := (-1 : Int32)) dX12_whoOpens_39 (by decide) ?_
    refine aj_icmp_eq (tgt := 63) dX12_whoOpens_40 (by decide) (fun h => ?_) (fun h => ?_)
    · refine aj_aload_n (0) dX12_whoOpens_63 rfl rfl ?_
      refine aj_iload_n (1) dX12_whoOpens_64 rfl rfl ?_
      refine aj_iload_n (2) dX12_whoOpens_65 rfl rfl ?_
      refine rV_IM (as := [.int (x1), .int (x2)]) (c_X12_byTurn w S _ _ _ _) mv_X12_byTurn rfl zg_1803 (by decide) (Nat.le_of_ble_eq_true rfl) dX12_whoOpens_66 (fun v11 M12 => ?_)
      exact aj_iret dX12_whoOpens_69 rfl rfl rfl
    refine aj_aload_n (0) dX12_whoOpens_43 rfl rfl ?_
    refine r_getI (TX := TX12) zc12 (by decide) rfl (Or.inl zg_1397) dX12_whoOpens_44 (fun v13 => ?_)
    refine aj_iconst (v := (3 : Int32)) dX12_whoOpens_47 (by decide) ?_
    refine aj_icmp_eq (tgt := 63) dX12_whoOpens_48 (by decide) (fun h => ?_) (fun h => ?_)
    · refine aj_aload_n (0) dX12_whoOpens_63 rfl rfl ?_
      refine aj_iload_n (1) dX12_whoOpens_64 rfl rfl ?_
      refine aj_iload_n (2) dX12_whoOpens_65 rfl rfl ?_
      refine rV_IM (as := [.int (x1), .int (x2)]) (c_X12_byTurn w S _ _ _ _) mv_X12_byTurn rfl zg_1803 (by decide) (Nat.le_of_ble_eq_true rfl) dX12_whoOpens_66 (fun v14 M15 => ?_)
      exact aj_iret dX12_whoOpens_69 rfl rfl rfl
    refine aj_aload_n (0) dX12_whoOpens_51 rfl rfl ?_
    refine aj_getR (TX := TX12) zc12 (by decide) rfl (Or.inl zg_1358) dX12_whoOpens_52 (fun r16 => ?_)
    refine aj_aload_n (0) dX12_whoOpens_55 rfl rfl ?_
    refine aj_getR (TX := TX12) zc12 (by decide) rfl (Or.inl zg_1383) dX12_whoOpens_56 (fun r17 => ?_)
    refine aj_iload_n (1) dX12_whoOpens_59 rfl rfl ?_
    refine r_iald dX12_whoOpens_60 (fun v18 => ?_)
    refine r_iald dX12_whoOpens_61 (fun v19 => ?_)
    exact aj_iret dX12_whoOpens_62 rfl rfl rfl
  refine aj_aload_n (0) dX12_whoOpens_10 rfl rfl ?_
  refine aj_getR (TX := TX12) zc12 (by decide) rfl (Or.inl zg_1386) dX12_whoOpens_11 (fun r20 => ?_)
  refine aj_iload_n (1) dX12_whoOpens_14 rfl rfl ?_
  refine r_iald dX12_whoOpens_15 (fun v21 => ?_)
  exact aj_iret dX12_whoOpens_16 rfl rfl rfl
def gX12_opens_85 (S : List (Nat × Nat)) : Nat → Nat → Int32 → Int32 → Int32 → zM → Option zM
  | 0 => fun _ _ _ _ _ => none
  | n + 1 => fun p0 x1 x4 x5 M => zgR S M (p0) 12 66 3 (fun r1 => zaI S M 100 (r1) ((3 : Int32)) (fun v2 => (if v2 ≤ x5 then some M else zrc S (p0) 12 66 ((gX12_isDone S (p0) (x1) (x5) M).bind (fun v3 => (if v3 = 0 then zgR S M (p0) 12 66 10 (fun r4 => zaI S M 100 (r4) (x5) (fun v5 => (if x4 < v5 then (gX12_opens_85 S   n) (p0) (x1) (x4) ((x5 + (1 : Int32))) M else zgR S M (p0) 12 66 11 (fun r6 => zaI S M 100 (r6) (x5) (fun v7 => (if v7 < x4 then (gX12_opens_85 S   n) (p0) (x1) (x4) ((x5 + (1 : Int32))) M else zgR S M (p0) 12 66 44 (fun r8 => zaI S M 100 (r8) ((((5 : Int32) * x1) + x5)) (fun v9 => zbI S M (r8) ((((5 : Int32) * x1) + x5)) ((v9 + (1 : Int32))) (fun M10 => (gX12_opens_85 S   n) (p0) (x1) (x4) ((x5 + (1 : Int32))) M10))))))))) else (gX12_opens_85 S   n) (p0) (x1) (x4) ((x5 + (1 : Int32))) M))))))
set_option maxHeartbeats 4000000 in
set_option maxRecDepth 100000 in
theorem t_X12_opens_85 (w : zWd) (S : List (Nat × Nat)) (fu : Nat) : ∀ (p0 : Nat) (x1 : Int32) (x4 : Int32) (x5 : Int32) (M : zM), AJ (zfVM S) w 6 mX12_opens 85 [(0, .ref (p0)), (1, .int (x1)), (4, .int (x4)), (5, .int (x5))] [] (S, M) (gX12_opens_85 S fu p0 x1 x4 x5 M) := by
  induction fu with
  | zero => intro p0 x1 x4 x5 M; exact AJ.none
  | succ n ih =>
    intro p0 x1 x4 x5 M
    unfold gX12_opens_85
    refine aj_iload (3) dX12_opens_85 rfl ?_
    refine aj_aload_n (0) dX12_opens_87 rfl rfl ?_
    refine aj_getR (TX := TX12) zc12 (by decide) rfl (Or.inl zg_1353) dX12_opens_88 (fun r1 => ?_)
    refine aj_iconst (v := (3 : Int32)) dX12_opens_91 (by decide) ?_
    refine r_iald dX12_opens_92 (fun v2 => ?_)
    refine aj_icmp_ge (tgt := 151) dX12_opens_93 (by decide) (fun h => ?_) (fun h => ?_)
    · exact aj_vret dX12_opens_151 rfl rfl
    refine aj_aload_n (0) dX12_opens_96 rfl rfl ?_
    refine aj_iload_n (1) dX12_opens_97 rfl rfl ?_
    refine aj_iload (3) dX12_opens_98 rfl ?_
    refine rV_I (as := [.int (x1), .int (x5)]) (c_X12_isDone w S _ _ _ _) mv_X12_isDone rfl zg_1739 (by decide) (Nat.le_of_ble_eq_true rfl) dX12_opens_100 (fun v3 => ?_)
    refine aj_if_ne (tgt := 145) dX12_opens_103 (by decide) (fun h => ?_) (fun h => ?_)
    · refine aj_iinc (j := 3) (v := (x5 + (1 : Int32))) (ls2 := [(5, .int ((x5 + (1 : Int32)))), (0, .ref (p0)), (1, .int (x1)), (4, .int (x4))]) dX12_opens_145 rfl rfl (Nat.le_of_ble_eq_true rfl) rfl ?_
      refine aj_goto (tgt := 85) dX12_opens_148 (by decide) ?_
      refine AJ.sub [1, 2, 3, 0] rfl ?_
      exact ih (p0) (x1) (x4) ((x5 + (1 : Int32))) M
    refine aj_aload_n (0) dX12_opens_106 rfl rfl ?_
    refine aj_getR (TX := TX12) zc12 (by decide) rfl (Or.inl zg_1360) dX12_opens_107 (fun r4 => ?_)
    refine aj_iload (3) dX12_opens_110 rfl ?_
    refine r_iald dX12_opens_112 (fun v5 => ?_)
    refine aj_iload (2) dX12_opens_113 rfl ?_
    refine aj_icmp_gt (tgt := 145) dX12_opens_115 (by decide) (fun h => ?_) (fun h => ?_)
    · refine aj_iinc (j := 3) (v := (x5 + (1 : Int32))) (ls2 := [(5, .int ((x5 + (1 : Int32)))), (0, .ref (p0)), (1, .int (x1)), (4, .int (x4))]) dX12_opens_145 rfl rfl (Nat.le_of_ble_eq_true rfl) rfl ?_
      refine aj_goto (tgt := 85) dX12_opens_148 (by decide) ?_
      refine AJ.sub [1, 2, 3, 0] rfl ?_
      exact ih (p0) (x1) (x4) ((x5 + (1 : Int32))) M
    refine aj_aload_n (0) dX12_opens_118 rfl rfl ?_
    refine aj_getR (TX := TX12) zc12 (by decide) rfl (Or.inl zg_1361) dX12_opens_119 (fun r6 => ?_)
    refine aj_iload (3) dX12_opens_122 rfl ?_
    refine r_iald dX12_opens_124 (fun v7 => ?_)
    refine aj_iload (2) dX12_opens_125 rfl ?_
    refine aj_icmp_lt (tgt := 145) dX12_opens_127 (by decide) (fun h => ?_) (fun h => ?_)
    · refine aj_iinc (j := 3) (v := (x5 + (1 : Int32))) (ls2 := [(5, .int ((x5 + (1 : Int32)))), (0, .ref (p0)), (1, .int (x1)), (4, .int (x4))]) dX12_opens_145 rfl rfl (Nat.le_of_ble_eq_true rfl) rfl ?_
      refine aj_goto (tgt := 85) dX12_opens_148 (by decide) ?_
      refine AJ.sub [1, 2, 3, 0] rfl ?_
      exact ih (p0) (x1) (x4) ((x5 + (1 : Int32))) M
    refine aj_aload_n (0) dX12_opens_130 rfl rfl ?_
    refine aj_getR (TX := TX12) zc12 (by decide) rfl (Or.inl zg_1394) dX12_opens_131 (fun r8 => ?_)
    refine aj_iconst (v := (5 : Int32)) dX12_opens_134 (by decide) ?_
    refine aj_iload_n (1) dX12_opens_135 rfl rfl ?_
    refine aj_imul dX12_opens_136 ?_
    refine aj_iload (3) dX12_opens_137 rfl ?_
    refine aj_iadd dX12_opens_139 ?_
    refine aj_dup2 dX12_opens_140 rfl rfl ?_
    refine r_iald dX12_opens_141 (fun v9 => ?_)
    refine aj_iconst (v := (1 : Int32)) dX12_opens_142 (by decide) ?_
    refine aj_iadd dX12_opens_143 ?_
    refine r_iast dX12_opens_144 (fun M10 => ?_)
    refine aj_iinc (j := 3) (v := (x5 + (1 : Int32))) (ls2 := [(5, .int ((x5 + (1 : Int32)))), (0, .ref (p0)), (1, .int (x1)), (4, .int (x4))]) dX12_opens_145 rfl rfl (Nat.le_of_ble_eq_true rfl) rfl ?_
    refine aj_goto (tgt := 85) dX12_opens_148 (by decide) ?_
    refine AJ.sub [1, 2, 3, 0] rfl ?_
    exact ih (p0) (x1) (x4) ((x5 + (1 : Int32))) M10
def gX12_opens (S : List (Nat × Nat)) (p0 : Nat) (x1 : Int32) (x2 : Int32) (M : zM) : Option zM := zrc S (p0) 12 66 (zb2 (gX12_lengthOf S (p0) (x1) (x2) M) (fun v1 M2 => zrc S (p0) 12 66 ((gX12_calls S (p0) (x1) (x2) M2).bind (fun M3 => zgR S M3 (p0) 12 66 41 (fun r4 => zgR S M3 (p0) 12 66 41 (fun r5 => zaI S M3 100 (r5) ((((6 : Int32) * x1) + x2)) (fun v6 => zrc S (p0) 12 66 (zb2 (gX12_within S (p0) ((1 : Int32)) ((-9 : Int32)) ((9 : Int32)) ((1 : Int32)) M3) (fun v7 M8 => zbI S M8 (r4) ((((6 : Int32) * x1) + x2)) ((if (0 : Int32) < (if (v6 + v7) < (999 : Int32) then (v6 + v7) else (999 : Int32)) then (if (v6 + v7) < (999 : Int32) then (v6 + v7) else (999 : Int32)) else (0 : Int32))) (fun M9 => zgR S M9 (p0) 12 66 42 (fun r10 => zgR S M9 (p0) 12 66 42 (fun r11 => zaI S M9 100 (r11) ((((6 : Int32) * x1) + x2)) (fun v12 => zbI S M9 (r10) ((((6 : Int32) * x1) + x2)) ((if (v12 + (1 : Int32)) < (9999 : Int32) then (v12 + (1 : Int32)) else (9999 : Int32))) (fun M13 => zgR S M13 (p0) 12 66 39 (fun r14 => zbI S M13 (r14) (x1) (v1) (fun M15 => gX12_opens_85 S zfu (p0) (x1) (v1) ((0 : Int32)) M15))))))))))))))))
set_option maxHeartbeats 4000000 in
set_option maxRecDepth 100000 in
theorem c_X12_opens (w : zWd) (S : List (Nat × Nat)) (p0 : Nat) (x1 : Int32) (x2 : Int32) (M : zM) : CT (zfVM S) w 6 mX12_opens [.ref (p0), .int (x1), .int (x2)] (S, M) (gX12_opens S p0 x1 x2 M) := by
  refine CT.of (by decide) (Nat.le_of_ble_eq_true rfl) ?_
  show AJ _ _ _ _ 0 [(0, .ref (p0)), (1, .int (x1)), (2, .int (x2))] [] _ _
  unfold gX12_opens
  refine aj_bipush (v := (6 : Int32)) dX12_opens_0 (by decide) ?_
  refine aj_iload_n (1) dX12_opens_2 rfl rfl ?_
  refine aj_imul dX12_opens_3 ?_
  refine aj_iload_n (2) dX12_opens_4 rfl rfl ?_
  refine aj_iadd dX12_opens_5 ?_
  refine aj_istore_n (ls2 := [(3, .int ((((6 : Int32) * x1) + x2))), (0, .ref (p0)), (1, .int (x1)), (2, .int (x2))]) dX12_opens_6 rfl (Nat.le_of_ble_eq_true rfl) rfl ?_
  refine aj_aload_n (1) dX12_opens_7 rfl rfl ?_
  refine aj_iload_n (2) dX12_opens_8 rfl rfl ?_
  refine aj_iload_n (3) dX12_opens_9 rfl rfl ?_
  refine rV_IM (as := [.int (x1), .int (x2)]) (c_X12_lengthOf w S _ _ _ _) mv_X12_lengthOf rfl zg_1761 (by decide) (Nat.le_of_ble_eq_true rfl) dX12_opens_10 (fun v1 M2 => ?_)
  refine aj_istore (ls2 := [(4, .int (v1)), (3, .int ((((6 : Int32) * x1) + x2))), (0, .ref (p0)), (1, .int (x1)), (2, .int (x2))]) dX12_opens_13 (Nat.le_of_ble_eq_true rfl) rfl ?_
  refine aj_aload_n (2) dX12_opens_15 rfl rfl ?_
  refine aj_iload_n (3) dX12_opens_16 rfl rfl ?_
  refine aj_iload_n (4) dX12_opens_17 rfl rfl ?_
  refine rV_VM (as := [.int (x1), .int (x2)]) (c_X12_calls w S _ _ _ _) mv_X12_calls rfl zg_1727 (by decide) (Nat.le_of_ble_eq_true rfl) dX12_opens_18 (fun M3 => ?_)
  refine aj_aload_n (2) dX12_opens_21 rfl rfl ?_
  refine aj_getR (TX := TX12) zc12 (by decide) rfl (Or.inl zg_1391) dX12_opens_22 (fun r4 => ?_)
  refine aj_iload_n (1) dX12_opens_25 rfl rfl ?_
  refine aj_iconst (v := (0 : Int32)) dX12_opens_26 (by decide) ?_
  refine aj_sipush (v := (999 : Int32)) dX12_opens_27 (by decide) ?_
  refine aj_aload_n (2) dX12_opens_30 rfl rfl ?_
  refine aj_getR (TX := TX12) zc12 (by decide) rfl (Or.inl zg_1391) dX12_opens_31 (fun r5 => ?_)
  refine aj_iload_n (1) dX12_opens_34 rfl rfl ?_
  refine r_iald dX12_opens_35 (fun v6 => ?_)
  refine aj_aload_n (2) dX12_opens_36 rfl rfl ?_
  refine aj_iconst (v := (1 : Int32)) dX12_opens_37 (by decide) ?_
  refine aj_bipush (v := (-9 : Int32)) dX12_opens_38 (by decide) ?_
  refine aj_bipush (v := (9 : Int32)) dX12_opens_40 (by decide) ?_
  refine aj_iconst (v := (1 : Int32)) dX12_opens_42 (by decide) ?_
  refine rV_IM (as := [.int ((1 : Int32)), .int ((-9 : Int32)), .int ((9 : Int32)), .int ((1 : Int32))]) (c_X12_within w S _ _ _ _ _ _) mv_X12_within rfl zg_1765 (by decide) (Nat.le_of_ble_eq_true rfl) dX12_opens_43 (fun v7 M8 => ?_)
  refine aj_iadd dX12_opens_46 ?_
  refine aj_mmin zg_1821 zg_663 zg_3 zg_664 (by decide) (Nat.le_of_ble_eq_true rfl) dX12_opens_47 ?_
  refine aj_mmax zg_1822 zg_40 zg_3 zg_41 (by decide) (Nat.le_of_ble_eq_true rfl) dX12_opens_50 ?_
  refine r_iast dX12_opens_53 (fun M9 => ?_)
  refine aj_aload_n (2) dX12_opens_54 rfl rfl ?_
  refine aj_getR (TX := TX12) zc12 (by decide) rfl (Or.inl zg_1392) dX12_opens_55 (fun r10 => ?_)
  refine aj_iload_n (1) dX12_opens_58 rfl rfl ?_
  refine aj_sipush (v := (9999 : Int32)) dX12_opens_59 (by decide) ?_
  refine aj_aload_n (2) dX12_opens_62 rfl rfl ?_
  refine aj_getR (TX := TX12) zc12 (by decide) rfl (Or.inl zg_1392) dX12_opens_63 (fun r11 => ?_)
  refine aj_iload_n (1) dX12_opens_66 rfl rfl ?_
  refine r_iald dX12_opens_67 (fun v12 => ?_)
  refine aj_iconst (v := (1 : Int32)) dX12_opens_68 (by decide) ?_
  refine aj_iadd dX12_opens_69 ?_
  refine aj_mmin zg_1821 zg_663 zg_3 zg_664 (by decide) (Nat.le_of_ble_eq_true rfl) dX12_opens_70 ?_
  refine r_iast dX12_opens_73 (fun M13 => ?_)
  refine aj_aload_n (2) dX12_opens_74 rfl rfl ?_
  refine aj_getR (TX := TX12) zc12 (by decide) rfl (Or.inl zg_1389) dX12_opens_75 (fun r14 => ?_)
  refine aj_iload_n (3) dX12_opens_78 rfl rfl ?_
  refine aj_iload (0) dX12_opens_79 rfl ?_
  refine r_iast dX12_opens_81 (fun M15 => ?_)
  refine aj_iconst (v := (0 : Int32)) dX12_opens_82 (by decide) ?_
  refine aj_istore (ls2 := [(5, .int ((0 : Int32))), (4, .int (v1)), (3, .int ((((6 : Int32) * x1) + x2))), (0, .ref (p0)), (1, .int (x1)), (2, .int (x2))]) dX12_opens_83 (Nat.le_of_ble_eq_true rfl) rfl ?_
  refine AJ.sub [3, 4, 1, 0] rfl ?_
  exact t_X12_opens_85 w S zfu (p0) (x1) (v1) ((0 : Int32)) M15
def gX12_passes (S : List (Nat × Nat)) (p0 : Nat) (x1 : Int32) (x2 : Int32) (M : zM) : Option zM := zrc S (p0) 12 66 (zb2 (gX12_whoOpens S (p0) (x1) (x2) M) (fun v1 M2 => zgR S M2 (p0) 12 66 40 (fun r3 => zbI S M2 (r3) (x1) (v1) (fun M4 => (if v1 = (-1 : Int32) then zgR S M4 (p0) 12 66 38 (fun r11 => zaI S M4 100 (r11) (x1) (fun v12 => zbI S M4 (r11) (x1) ((v12 + (1 : Int32))) (fun M13 => zgR S M13 (p0) 12 66 33 (fun r14 => zaI S M13 100 (r14) (x1) (fun v15 => zbI S M13 (r14) (x1) ((v15 + (1 : Int32))) (fun M16 => zgR S M16 (p0) 12 66 36 (fun r17 => zbI S M16 (r17) (x1) ((-1 : Int32)) (fun M18 => some M18)))))))) else zrc S (p0) 12 66 ((gX12_opens S (p0) (x1) (v1) M4).bind (fun M5 => zgR S M5 (p0) 12 66 33 (fun r6 => zaI S M5 100 (r6) (x1) (fun v7 => zbI S M5 (r6) (x1) ((v7 + (1 : Int32))) (fun M8 => zgR S M8 (p0) 12 66 36 (fun r9 => zbI S M8 (r9) (x1) ((-1 : Int32)) (fun M10 => some M10))))))))))))
set_option maxHeartbeats 4000000 in
set_option maxRecDepth 100000 in
theorem c_X12_passes (w : zWd) (S : List (Nat × Nat)) (p0 : Nat) (x1 : Int32) (x2 : Int32) (M : zM) : CT (zfVM S) w 7 mX12_passes [.ref (p0), .int (x1), .int (x2)] (S, M) (gX12_passes S p0 x1 x2 M) := by
  refine CT.of (by decide) (Nat.le_of_ble_eq_true rfl) ?_
  show AJ _ _ _ _ 0 [(0, .ref (p0)), (1, .int (x1)), (2, .int (x2))] [] _ _
  unfold gX12_passes
  refine aj_aload_n (0) dX12_passes_0 rfl rfl ?_
  refine aj_iload_n (1) dX12_passes_1 rfl rfl ?_
  refine aj_iload_n (2) dX12_passes_2 rfl rfl ?_
  refine rV_IM (as := [.int (x1), .int (x2)]) (c_X12_whoOpens w S _ _ _ _) mv_X12_whoOpens rfl zg_1799 (by decide) (Nat.le_of_ble_eq_true rfl) dX12_passes_3 (fun v1 M2 => ?_)
  refine aj_istore_n (ls2 := [(3, .int (v1)), (0, .ref (p0)), (1, .int (x1)), (2, .int (x2))]) dX12_passes_6 rfl (Nat.le_of_ble_eq_true rfl) rfl ?_
  refine aj_aload_n (1) dX12_passes_7 rfl rfl ?_
  refine aj_getR (TX := TX12) zc12 (by decide) rfl (Or.inl zg_1390) dX12_passes_8 (fun r3 => ?_)
  refine aj_iload_n (2) dX12_passes_11 rfl rfl ?_
  refine aj_iload_n (0) dX12_passes_12 rfl rfl ?_
  refine r_iast dX12_passes_13 (fun M4 => ?_)
  refine aj_iload_n (0) dX12_passes_14 rfl rfl ?_
  refine aj_iconst (v := (-1 : Int32)) dX12_passes_15 (by decide) ?_
  refine aj_icmp_ne (tgt := 32) dX12_passes_16 (by decide) (fun h => ?_) (fun h => ?_)
  · refine aj_aload_n (1) dX12_passes_32 rfl rfl ?_
    refine aj_iload_n (2) dX12_passes_33 rfl rfl ?_
    refine aj_iload_n (0) dX12_passes_34 rfl rfl ?_
    refine rV_VM (as := [.int (x1), .int (v1)]) (c_X12_opens w S _ _ _ _) mv_X12_opens rfl zg_1817 (by decide) (Nat.le_of_ble_eq_true rfl) dX12_passes_35 (fun M5 => ?_)
    refine aj_aload_n (1) dX12_passes_38 rfl rfl ?_
    refine aj_getR (TX := TX12) zc12 (by decide) rfl (Or.inl zg_1383) dX12_passes_39 (fun r6 => ?_)
    refine aj_iload_n (2) dX12_passes_42 rfl rfl ?_
    refine aj_dup2 dX12_passes_43 rfl rfl ?_
    refine r_iald dX12_passes_44 (fun v7 => ?_)
    refine aj_iconst (v := (1 : Int32)) dX12_passes_45 (by decide) ?_
    refine aj_iadd dX12_passes_46 ?_
    refine r_iast dX12_passes_47 (fun M8 => ?_)
    refine aj_aload_n (1) dX12_passes_48 rfl rfl ?_
    refine aj_getR (TX := TX12) zc12 (by decide) rfl (Or.inl zg_1386) dX12_passes_49 (fun r9 => ?_)
    refine aj_iload_n (2) dX12_passes_52 rfl rfl ?_
    refine aj_iconst (v := (-1 : Int32)) dX12_passes_53 (by decide) ?_
    refine r_iast dX12_passes_54 (fun M10 => ?_)
    exact aj_vret dX12_passes_55 rfl rfl
  refine aj_aload_n (1) dX12_passes_19 rfl rfl ?_
  refine aj_getR (TX := TX12) zc12 (by decide) rfl (Or.inl zg_1388) dX12_passes_20 (fun r11 => ?_)
  refine aj_iload_n (2) dX12_passes_23 rfl rfl ?_
  refine aj_dup2 dX12_passes_24 rfl rfl ?_
  refine r_iald dX12_passes_25 (fun v12 => ?_)
  refine aj_iconst (v := (1 : Int32)) dX12_passes_26 (by decide) ?_
  refine aj_iadd dX12_passes_27 ?_
  refine r_iast dX12_passes_28 (fun M13 => ?_)
  refine aj_goto (tgt := 38) dX12_passes_29 (by decide) ?_
  refine aj_aload_n (1) dX12_passes_38 rfl rfl ?_
  refine aj_getR (TX := TX12) zc12 (by decide) rfl (Or.inl zg_1383) dX12_passes_39 (fun r14 => ?_)
  refine aj_iload_n (2) dX12_passes_42 rfl rfl ?_
  refine aj_dup2 dX12_passes_43 rfl rfl ?_
  refine r_iald dX12_passes_44 (fun v15 => ?_)
  refine aj_iconst (v := (1 : Int32)) dX12_passes_45 (by decide) ?_
  refine aj_iadd dX12_passes_46 ?_
  refine r_iast dX12_passes_47 (fun M16 => ?_)
  refine aj_aload_n (1) dX12_passes_48 rfl rfl ?_
  refine aj_getR (TX := TX12) zc12 (by decide) rfl (Or.inl zg_1386) dX12_passes_49 (fun r17 => ?_)
  refine aj_iload_n (2) dX12_passes_52 rfl rfl ?_
  refine aj_iconst (v := (-1 : Int32)) dX12_passes_53 (by decide) ?_
  refine r_iast dX12_passes_54 (fun M18 => ?_)
  exact aj_vret dX12_passes_55 rfl rfl
def gX12_goesOn_2 (S : List (Nat × Nat)) : Nat → Nat → Int32 → Int32 → zM → Option zM
  | 0 => fun _ _ _ _ => none
  | n + 1 => fun p0 x1 x2 M => (if x1 ≤ x2 then some M else zrc S (p0) 12 66 ((gX12_passes S (p0) ((1 : Int32)) ((0 : Int32)) M).bind (fun M1 => (gX12_goesOn_2 S   n) (p0) (x1) ((x2 + (1 : Int32))) M1)))
set_option maxHeartbeats 4000000 in
set_option maxRecDepth 100000 in
theorem t_X12_goesOn_2 (w : zWd) (S : List (Nat × Nat)) (fu : Nat) : ∀ (p0 : Nat) (x1 : Int32) (x2 : Int32) (M : zM), AJ (zfVM S) w 8 mX12_goesOn 2 [(0, .ref (p0)), (1, .int (x1)), (2, .int (x2))] [] (S, M) (gX12_goesOn_2 S fu p0 x1 x2 M) := by
  induction fu with
  | zero => intro p0 x1 x2 M; exact AJ.none
  | succ n ih =>
    intro p0 x1 x2 M
    unfold gX12_goesOn_2
    refine aj_iload_n (2) dX12_goesOn_2 rfl rfl ?_
    refine aj_iload_n (1) dX12_goesOn_3 rfl rfl ?_
    refine aj_icmp_ge (tgt := 19) dX12_goesOn_4 (by decide) (fun h => ?_) (fun h => ?_)
    · exact aj_vret dX12_goesOn_19 rfl rfl
    refine aj_aload_n (0) dX12_goesOn_7 rfl rfl ?_
    refine aj_iconst (v := (1 : Int32)) dX12_goesOn_8 (by decide) ?_
    refine aj_iconst (v := (0 : Int32)) dX12_goesOn_9 (by decide) ?_
    refine rV_VM (as := [.int ((1 : Int32)), .int ((0 : Int32))]) (c_X12_passes w S _ _ _ _) mv_X12_passes rfl zg_1795 (by decide) (Nat.le_of_ble_eq_true rfl) dX12_goesOn_10 (fun M1 => ?_)
    refine aj_iinc (j := 2) (v := (x2 + (1 : Int32))) (ls2 := [(2, .int ((x2 + (1 : Int32)))), (0, .ref (p0)), (1, .int (x1))]) dX12_goesOn_13 rfl rfl (Nat.le_of_ble_eq_true rfl) rfl ?_
    refine aj_goto (tgt := 2) dX12_goesOn_16 (by decide) ?_
    refine AJ.sub [1, 2, 0] rfl ?_
    exact ih (p0) (x1) ((x2 + (1 : Int32))) M1
def gX12_goesOn (S : List (Nat × Nat)) (p0 : Nat) (x1 : Int32) (M : zM) : Option zM := gX12_goesOn_2 S zfu (p0) (x1) ((0 : Int32)) M
set_option maxHeartbeats 4000000 in
set_option maxRecDepth 100000 in
theorem c_X12_goesOn (w : zWd) (S : List (Nat × Nat)) (p0 : Nat) (x1 : Int32) (M : zM) : CT (zfVM S) w 8 mX12_goesOn [.ref (p0), .int (x1)] (S, M) (gX12_goesOn S p0 x1 M) := by
  refine CT.of (by decide) (Nat.le_of_ble_eq_true rfl) ?_
  show AJ _ _ _ _ 0 [(0, .ref (p0)), (1, .int (x1))] [] _ _
  unfold gX12_goesOn
  refine aj_iconst (v := (0 : Int32)) dX12_goesOn_0 (by decide) ?_
  refine aj_istore_n (ls2 := [(2, .int ((0 : Int32))), (0, .ref (p0)), (1, .int (x1))]) dX12_goesOn_1 rfl (Nat.le_of_ble_eq_true rfl) rfl ?_
  refine AJ.sub [1, 2, 0] rfl ?_
  exact t_X12_goesOn_2 w S zfu (p0) (x1) ((0 : Int32)) M
def gX12_placesOf_4 (S : List (Nat × Nat)) : Nat → Nat → Int32 → Int32 → Int32 → zM → Option Int32
  | 0 => fun _ _ _ _ _ => none
  | n + 1 => fun p0 x1 x2 x3 M => zgR S M (p0) 12 66 3 (fun r1 => zaI S M 100 (r1) ((1 : Int32)) (fun v2 => (if v2 ≤ x3 then some (x2) else zgR S M (p0) 12 66 43 (fun r3 => zaI S M 100 (r3) (x3) (fun v4 => (if v4 = x1 then (gX12_placesOf_4 S   n) (p0) (x1) ((x2 + (1 : Int32))) ((x3 + (1 : Int32))) M else (gX12_placesOf_4 S   n) (p0) (x1) ((x2 + (0 : Int32))) ((x3 + (1 : Int32))) M))))))
set_option maxHeartbeats 4000000 in
set_option maxRecDepth 100000 in
theorem t_X12_placesOf_4 (w : zWd) (S : List (Nat × Nat)) (fu : Nat) : ∀ (p0 : Nat) (x1 : Int32) (x2 : Int32) (x3 : Int32) (M : zM), AJ (zfI S M) w 1 mX12_placesOf 4 [(0, .ref (p0)), (1, .int (x1)), (2, .int (x2)), (3, .int (x3))] [] (S, M) (gX12_placesOf_4 S fu p0 x1 x2 x3 M) := by
  induction fu with
  | zero => intro p0 x1 x2 x3 M; exact AJ.none
  | succ n ih =>
    intro p0 x1 x2 x3 M
    unfold gX12_placesOf_4
    refine aj_iload_n (3) dX12_placesOf_4 rfl rfl ?_
    refine aj_aload_n (0) dX12_placesOf_5 rfl rfl ?_
    refine aj_getR (TX := TX12) zc12 (by decide) rfl (Or.inl zg_1353) dX12_placesOf_6 (fun r1 => ?_)
    refine aj_iconst (v := (1 : Int32)) dX12_placesOf_9 (by decide) ?_
    refine r_iald dX12_placesOf_10 (fun v2 => ?_)
    refine aj_icmp_ge (tgt := 38) dX12_placesOf_11 (by decide) (fun h => ?_) (fun h => ?_)
    · refine aj_iload_n (2) dX12_placesOf_38 rfl rfl ?_
      exact aj_iret dX12_placesOf_39 rfl rfl rfl
    refine aj_iload_n (2) dX12_placesOf_14 rfl rfl ?_
    refine aj_aload_n (0) dX12_placesOf_15 rfl rfl ?_
    refine aj_getR (TX := TX12) zc12 (by decide) rfl (Or.inl zg_1393) dX12_placesOf_16 (fun r3 => ?_)
    refine aj_iload_n (3) dX12_placesOf_19 rfl rfl ?_
    refine r_iald dX12_placesOf_20 (fun v4 => ?_)
    refine aj_iload_n (1) dX12_placesOf_21 rfl rfl ?_
    refine aj_icmp_ne (tgt := 29) dX12_placesOf_22 (by decide) (fun h => ?_) (fun h => ?_)
    · refine aj_iconst (v := (0 : Int32)) dX12_placesOf_29 (by decide) ?_
      refine aj_iadd dX12_placesOf_30 ?_
      refine aj_istore_n (ls2 := [(2, .int ((x2 + (0 : Int32)))), (0, .ref (p0)), (1, .int (x1)), (3, .int (x3))]) dX12_placesOf_31 rfl (Nat.le_of_ble_eq_true rfl) rfl ?_
      refine aj_iinc (j := 3) (v := (x3 + (1 : Int32))) (ls2 := [(3, .int ((x3 + (1 : Int32)))), (2, .int ((x2 + (0 : Int32)))), (0, .ref (p0)), (1, .int (x1))]) dX12_placesOf_32 rfl rfl (Nat.le_of_ble_eq_true rfl) rfl ?_
      refine aj_goto (tgt := 4) dX12_placesOf_35 (by decide) ?_
      refine AJ.sub [2, 3, 1, 0] rfl ?_
      exact ih (p0) (x1) ((x2 + (0 : Int32))) ((x3 + (1 : Int32))) M
    refine aj_iconst (v := (1 : Int32)) dX12_placesOf_25 (by decide) ?_
    refine aj_goto (tgt := 30) dX12_placesOf_26 (by decide) ?_
    refine aj_iadd dX12_placesOf_30 ?_
    refine aj_istore_n (ls2 := [(2, .int ((x2 + (1 : Int32)))), (0, .ref (p0)), (1, .int (x1)), (3, .int (x3))]) dX12_placesOf_31 rfl (Nat.le_of_ble_eq_true rfl) rfl ?_
    refine aj_iinc (j := 3) (v := (x3 + (1 : Int32))) (ls2 := [(3, .int ((x3 + (1 : Int32)))), (2, .int ((x2 + (1 : Int32)))), (0, .ref (p0)), (1, .int (x1))]) dX12_placesOf_32 rfl rfl (Nat.le_of_ble_eq_true rfl) rfl ?_
    refine aj_goto (tgt := 4) dX12_placesOf_35 (by decide) ?_
    refine AJ.sub [2, 3, 1, 0] rfl ?_
    exact ih (p0) (x1) ((x2 + (1 : Int32))) ((x3 + (1 : Int32))) M
def gX12_placesOf (S : List (Nat × Nat)) (p0 : Nat) (x1 : Int32) (M : zM) : Option Int32 := gX12_placesOf_4 S zfu (p0) (x1) ((0 : Int32)) ((0 : Int32)) M
set_option maxHeartbeats 4000000 in
set_option maxRecDepth 100000 in
theorem c_X12_placesOf (w : zWd) (S : List (Nat × Nat)) (p0 : Nat) (x1 : Int32) (M : zM) : CT (zfI S M) w 1 mX12_placesOf [.ref (p0), .int (x1)] (S, M) (gX12_placesOf S p0 x1 M) := by
  refine CT.of (by decide) (Nat.le_of_ble_eq_true rfl) ?_
  show AJ _ _ _ _ 0 [(0, .ref (p0)), (1, .int (x1))] [] _ _
  unfold gX12_placesOf
  refine aj_iconst (v := (0 : Int32)) dX12_placesOf_0 (by decide) ?_
  refine aj_istore_n (ls2 := [(2, .int ((0 : Int32))), (0, .ref (p0)), (1, .int (x1))]) dX12_placesOf_1 rfl (Nat.le_of_ble_eq_true rfl) rfl ?_
  refine aj_iconst (v := (0 : Int32)) dX12_placesOf_2 (by decide) ?_
  refine aj_istore_n (ls2 := [(3, .int ((0 : Int32))), (2, .int ((0 : Int32))), (0, .ref (p0)), (1, .int (x1))]) dX12_placesOf_3 rfl (Nat.le_of_ble_eq_true rfl) rfl ?_
  refine AJ.sub [2, 3, 1, 0] rfl ?_
  exact t_X12_placesOf_4 w S zfu (p0) (x1) ((0 : Int32)) ((0 : Int32)) M
def gX12_trade_27 (S : List (Nat × Nat)) (p0 : Nat) (x1 : Int32) (x2 : Int32) (x0s : Int32) (p1s : Nat) (M : zM) : Option (Int32 × zM) := zpI S M (p1s) 12 66 0 (x0s) (fun M1 => zgI S M1 (p0) 12 66 0 (fun v2 => (if v2 = 0 then (if x2 = (0 : Int32) then zgR S M1 (p0) 12 66 5 (fun r4 => zaI S M1 100 (r4) (x1) (fun v5 => some (v5, M1))) else (if x2 = (1 : Int32) then zgR S M1 (p0) 12 66 6 (fun r7 => zaI S M1 100 (r7) (x1) (fun v8 => some (v8, M1))) else (if x2 = (2 : Int32) then zgR S M1 (p0) 12 66 41 (fun r10 => zaI S M1 100 (r10) (x1) (fun v11 => some (v11, M1))) else (if x2 = (3 : Int32) then zgR S M1 (p0) 12 66 42 (fun r13 => zaI S M1 100 (r13) (x1) (fun v14 => some (v14, M1))) else zrc S (p0) 12 66 ((gX12_placesOf S (p0) (x1) M1).bind (fun v15 => some (v15, M1))))))) else some ((0 : Int32), M1))))
set_option maxHeartbeats 4000000 in
set_option maxRecDepth 100000 in
theorem t_X12_trade_27 (w : zWd) (S : List (Nat × Nat)) (p0 : Nat) (x1 : Int32) (x2 : Int32) (x0s : Int32) (p1s : Nat) (M : zM) : AJ (zfIM S) w 2 mX12_trade 27 [(0, .ref (p0)), (1, .int (x1)), (2, .int (x2))] [.int (x0s), .ref (p1s)] (S, M) (gX12_trade_27 S p0 x1 x2 x0s p1s M) := by
  unfold gX12_trade_27
  refine r_putI (TX := TX12) zc12 (by decide) rfl rfl rfl rfl (Or.inl zg_1350) dX12_trade_27 (fun M1 => ?_)
  refine aj_aload_n (0) dX12_trade_30 rfl rfl ?_
  refine r_getI (TX := TX12) zc12 (by decide) rfl (Or.inl zg_1350) dX12_trade_31 (fun v2 => ?_)
  refine aj_if_eq (tgt := 39) dX12_trade_34 (by decide) (fun h => ?_) (fun h => ?_)
  · refine aj_iload_n (2) dX12_trade_39 rfl rfl ?_
    refine aj_ite (fun h => ?_) (fun h3 => ?_)
    · have h9 : x2 = (0 : Int32) := h
      refine aj_tsw (tgt := 72) (off := 32) dX12_trade_40 (by rw [h9]; decide) (by rw [h9]; decide) (by rw [h9]; decide +kernel) (by decide) ?_
      refine aj_aload_n (0) dX12_trade_72 rfl rfl ?_
      refine aj_getR (TX := TX12) zc12 (by decide) rfl (Or.inl zg_1355) dX12_trade_73 (fun r4 => ?_)
      refine aj_iload_n (1) dX12_trade_76 rfl rfl ?_
      refine r_iald dX12_trade_77 (fun v5 => ?_)
      exact aj_iret dX12_trade_78 rfl rfl rfl
    refine aj_ite (fun h => ?_) (fun h6 => ?_)
    · have h9 : x2 = (1 : Int32) := h
      refine aj_tsw (tgt := 79) (off := 39) dX12_trade_40 (by rw [h9]; decide) (by rw [h9]; decide) (by rw [h9]; decide +kernel) (by decide) ?_
      refine aj_aload_n (0) dX12_trade_79 rfl rfl ?_
      refine aj_getR (TX := TX12) zc12 (by decide) rfl (Or.inl zg_1356) dX12_trade_80 (fun r7 => ?_)
      refine aj_iload_n (1) dX12_trade_83 rfl rfl ?_
      refine r_iald dX12_trade_84 (fun v8 => ?_)
      exact aj_iret dX12_trade_85 rfl rfl rfl
    refine aj_ite (fun h => ?_) (fun h9 => ?_)
    · have h9 : x2 = (2 : Int32) := h
      refine aj_tsw (tgt := 86) (off := 46) dX12_trade_40 (by rw [h9]; decide) (by rw [h9]; decide) (by rw [h9]; decide +kernel) (by decide) ?_
      refine aj_aload_n (0) dX12_trade_86 rfl rfl ?_
      refine aj_getR (TX := TX12) zc12 (by decide) rfl (Or.inl zg_1391) dX12_trade_87 (fun r10 => ?_)
      refine aj_iload_n (1) dX12_trade_90 rfl rfl ?_
      refine r_iald dX12_trade_91 (fun v11 => ?_)
      exact aj_iret dX12_trade_92 rfl rfl rfl
    refine aj_ite (fun h => ?_) (fun h12 => ?_)
    · have h9 : x2 = (3 : Int32) := h
      refine aj_tsw (tgt := 93) (off := 53) dX12_trade_40 (by rw [h9]; decide) (by rw [h9]; decide) (by rw [h9]; decide +kernel) (by decide) ?_
      refine aj_aload_n (0) dX12_trade_93 rfl rfl ?_
      refine aj_getR (TX := TX12) zc12 (by decide) rfl (Or.inl zg_1392) dX12_trade_94 (fun r13 => ?_)
      refine aj_iload_n (1) dX12_trade_97 rfl rfl ?_
      refine r_iald dX12_trade_98 (fun v14 => ?_)
      exact aj_iret dX12_trade_99 rfl rfl rfl
    refine aj_tswO (tgt := 100) dX12_trade_40 (by have a0 := lv_neT (k := (0 : Int32)) h3 (a := 0) (by decide); have a1 := lv_neT (k := (1 : Int32)) h6 (a := 1) (by decide); have a2 := lv_neT (k := (2 : Int32)) h9 (a := 2) (by decide); have a3 := lv_neT (k := (3 : Int32)) h12 (a := 3) (by decide); omega) (by decide) ?_
    refine aj_aload_n (0) dX12_trade_100 rfl rfl ?_
    refine aj_iload_n (1) dX12_trade_101 rfl rfl ?_
    refine rV_I (as := [.int (x1)]) (c_X12_placesOf w S _ _ _) mv_X12_placesOf rfl zg_1698 (by decide) (Nat.le_of_ble_eq_true rfl) dX12_trade_102 (fun v15 => ?_)
    exact aj_iret dX12_trade_105 rfl rfl rfl
  refine aj_iconst (v := (0 : Int32)) dX12_trade_37 (by decide) ?_
  exact aj_iret dX12_trade_38 rfl rfl rfl
def gX12_trade (S : List (Nat × Nat)) (p0 : Nat) (x1 : Int32) (x2 : Int32) (M : zM) : Option (Int32 × zM) := zrc S (p0) 12 66 ((gX12_isTrade S (p0) (x1) M).bind (fun v1 => (if v1 = 0 then gX12_trade_27 S (p0) (x1) (x2) ((1 : Int32)) (p0) M else (if x2 < 0 then gX12_trade_27 S (p0) (x1) (x2) ((2 : Int32)) (p0) M else (if x2 ≤ (4 : Int32) then gX12_trade_27 S (p0) (x1) (x2) ((0 : Int32)) (p0) M else gX12_trade_27 S (p0) (x1) (x2) ((2 : Int32)) (p0) M)))))
set_option maxHeartbeats 4000000 in
set_option maxRecDepth 100000 in
theorem c_X12_trade (w : zWd) (S : List (Nat × Nat)) (p0 : Nat) (x1 : Int32) (x2 : Int32) (M : zM) : CT (zfIM S) w 2 mX12_trade [.ref (p0), .int (x1), .int (x2)] (S, M) (gX12_trade S p0 x1 x2 M) := by
  refine CT.of (by decide) (Nat.le_of_ble_eq_true rfl) ?_
  show AJ _ _ _ _ 0 [(0, .ref (p0)), (1, .int (x1)), (2, .int (x2))] [] _ _
  unfold gX12_trade
  refine aj_aload_n (0) dX12_trade_0 rfl rfl ?_
  refine aj_aload_n (0) dX12_trade_1 rfl rfl ?_
  refine aj_iload_n (1) dX12_trade_2 rfl rfl ?_
  refine rV_I (as := [.int (x1)]) (c_X12_isTrade w S _ _ _) mv_X12_isTrade rfl zg_1694 (by decide) (Nat.le_of_ble_eq_true rfl) dX12_trade_3 (fun v1 => ?_)
  refine aj_if_ne (tgt := 13) dX12_trade_6 (by decide) (fun h => ?_) (fun h => ?_)
  · refine aj_iload_n (2) dX12_trade_13 rfl rfl ?_
    refine aj_if_lt (tgt := 22) dX12_trade_14 (by decide) (fun h => ?_) (fun h => ?_)
    · refine aj_iconst (v := (2 : Int32)) dX12_trade_22 (by decide) ?_
      refine aj_goto (tgt := 27) dX12_trade_23 (by decide) ?_
      refine AJ.sub [0, 1, 2] rfl ?_
      exact t_X12_trade_27 w S (p0) (x1) (x2) ((2 : Int32)) (p0) M
    refine aj_iload_n (2) dX12_trade_17 rfl rfl ?_
    refine aj_iconst (v := (4 : Int32)) dX12_trade_18 (by decide) ?_
    refine aj_icmp_le (tgt := 26) dX12_trade_19 (by decide) (fun h => ?_) (fun h => ?_)
    · refine aj_iconst (v := (0 : Int32)) dX12_trade_26 (by decide) ?_
      refine AJ.sub [0, 1, 2] rfl ?_
      exact t_X12_trade_27 w S (p0) (x1) (x2) ((0 : Int32)) (p0) M
    refine aj_iconst (v := (2 : Int32)) dX12_trade_22 (by decide) ?_
    refine aj_goto (tgt := 27) dX12_trade_23 (by decide) ?_
    refine AJ.sub [0, 1, 2] rfl ?_
    exact t_X12_trade_27 w S (p0) (x1) (x2) ((2 : Int32)) (p0) M
  refine aj_iconst (v := (1 : Int32)) dX12_trade_9 (by decide) ?_
  refine aj_goto (tgt := 27) dX12_trade_10 (by decide) ?_
  refine AJ.sub [0, 1, 2] rfl ?_
  exact t_X12_trade_27 w S (p0) (x1) (x2) ((1 : Int32)) (p0) M
def gX12_place (S : List (Nat × Nat)) (p0 : Nat) (x1 : Int32) (M : zM) : Option (Int32 × zM) := zpI S M (p0) 12 66 0 ((0 : Int32)) (fun M1 => zrc S (p0) 12 66 ((gX12_isPlace S (p0) (x1) M1).bind (fun v2 => (if v2 = 0 then some ((-1 : Int32), M1) else zgR S M1 (p0) 12 66 43 (fun r3 => zaI S M1 100 (r3) (x1) (fun v4 => some (v4, M1)))))))
set_option maxHeartbeats 4000000 in
set_option maxRecDepth 100000 in
theorem c_X12_place (w : zWd) (S : List (Nat × Nat)) (p0 : Nat) (x1 : Int32) (M : zM) : CT (zfIM S) w 2 mX12_place [.ref (p0), .int (x1)] (S, M) (gX12_place S p0 x1 M) := by
  refine CT.of (by decide) (Nat.le_of_ble_eq_true rfl) ?_
  show AJ _ _ _ _ 0 [(0, .ref (p0)), (1, .int (x1))] [] _ _
  unfold gX12_place
  refine aj_aload_n (0) dX12_place_0 rfl rfl ?_
  refine aj_iconst (v := (0 : Int32)) dX12_place_1 (by decide) ?_
  refine r_putI (TX := TX12) zc12 (by decide) rfl rfl rfl rfl (Or.inl zg_1350) dX12_place_2 (fun M1 => ?_)
  refine aj_aload_n (0) dX12_place_5 rfl rfl ?_
  refine aj_iload_n (1) dX12_place_6 rfl rfl ?_
  refine rV_I (as := [.int (x1)]) (c_X12_isPlace w S _ _ _) mv_X12_isPlace rfl zg_1706 (by decide) (Nat.le_of_ble_eq_true rfl) dX12_place_7 (fun v2 => ?_)
  refine aj_if_eq (tgt := 22) dX12_place_10 (by decide) (fun h => ?_) (fun h => ?_)
  · refine aj_iconst (v := (-1 : Int32)) dX12_place_22 (by decide) ?_
    exact aj_iret dX12_place_23 rfl rfl rfl
  refine aj_aload_n (0) dX12_place_13 rfl rfl ?_
  refine aj_getR (TX := TX12) zc12 (by decide) rfl (Or.inl zg_1393) dX12_place_14 (fun r3 => ?_)
  refine aj_iload_n (1) dX12_place_17 rfl rfl ?_
  refine r_iald dX12_place_18 (fun v4 => ?_)
  refine aj_goto (tgt := 23) dX12_place_19 (by decide) ?_
  exact aj_iret dX12_place_23 rfl rfl rfl
def gX12_work (S : List (Nat × Nat)) (p0 : Nat) (x1 : Int32) (x2 : Int32) (M : zM) : Option (Int32 × zM) := zpI S M (p0) 12 66 0 ((0 : Int32)) (fun M1 => zrc S (p0) 12 66 ((gX12_isWork S (p0) (x1) M1).bind (fun v2 => (if v2 = 0 then some ((-1 : Int32), M1) else (if x2 = (0 : Int32) then zgR S M1 (p0) 12 66 10 (fun r4 => zaI S M1 100 (r4) (x1) (fun v5 => some (v5, M1))) else (if x2 = (1 : Int32) then zgR S M1 (p0) 12 66 11 (fun r7 => zaI S M1 100 (r7) (x1) (fun v8 => some (v8, M1))) else (if x2 = (2 : Int32) then zgR S M1 (p0) 12 66 12 (fun r10 => zaI S M1 100 (r10) (x1) (fun v11 => some (v11, M1))) else (if x2 = (3 : Int32) then zgR S M1 (p0) 12 66 44 (fun r13 => zaI S M1 100 (r13) (x1) (fun v14 => some (v14, M1))) else some ((-1 : Int32), M1)))))))))
set_option maxHeartbeats 4000000 in
set_option maxRecDepth 100000 in
theorem c_X12_work (w : zWd) (S : List (Nat × Nat)) (p0 : Nat) (x1 : Int32) (x2 : Int32) (M : zM) : CT (zfIM S) w 2 mX12_work [.ref (p0), .int (x1), .int (x2)] (S, M) (gX12_work S p0 x1 x2 M) := by
  refine CT.of (by decide) (Nat.le_of_ble_eq_true rfl) ?_
  show AJ _ _ _ _ 0 [(0, .ref (p0)), (1, .int (x1)), (2, .int (x2))] [] _ _
  unfold gX12_work
  refine aj_aload_n (0) dX12_work_0 rfl rfl ?_
  refine aj_iconst (v := (0 : Int32)) dX12_work_1 (by decide) ?_
  refine r_putI (TX := TX12) zc12 (by decide) rfl rfl rfl rfl (Or.inl zg_1350) dX12_work_2 (fun M1 => ?_)
  refine aj_aload_n (0) dX12_work_5 rfl rfl ?_
  refine aj_iload_n (1) dX12_work_6 rfl rfl ?_
  refine rV_I (as := [.int (x1)]) (c_X12_isWork w S _ _ _) mv_X12_isWork rfl zg_1714 (by decide) (Nat.le_of_ble_eq_true rfl) dX12_work_7 (fun v2 => ?_)
  refine aj_if_ne (tgt := 15) dX12_work_10 (by decide) (fun h => ?_) (fun h => ?_)
  · refine aj_iload_n (2) dX12_work_15 rfl rfl ?_
    refine aj_ite (fun h => ?_) (fun h3 => ?_)
    · have h9 : x2 = (0 : Int32) := h
      refine aj_tsw (tgt := 48) (off := 32) dX12_work_16 (by rw [h9]; decide) (by rw [h9]; decide) (by rw [h9]; decide +kernel) (by decide) ?_
      refine aj_aload_n (0) dX12_work_48 rfl rfl ?_
      refine aj_getR (TX := TX12) zc12 (by decide) rfl (Or.inl zg_1360) dX12_work_49 (fun r4 => ?_)
      refine aj_iload_n (1) dX12_work_52 rfl rfl ?_
      refine r_iald dX12_work_53 (fun v5 => ?_)
      exact aj_iret dX12_work_54 rfl rfl rfl
    refine aj_ite (fun h => ?_) (fun h6 => ?_)
    · have h9 : x2 = (1 : Int32) := h
      refine aj_tsw (tgt := 55) (off := 39) dX12_work_16 (by rw [h9]; decide) (by rw [h9]; decide) (by rw [h9]; decide +kernel) (by decide) ?_
      refine aj_aload_n (0) dX12_work_55 rfl rfl ?_
      refine aj_getR (TX := TX12) zc12 (by decide) rfl (Or.inl zg_1361) dX12_work_56 (fun r7 => ?_)
      refine aj_iload_n (1) dX12_work_59 rfl rfl ?_
      refine r_iald dX12_work_60 (fun v8 => ?_)
      exact aj_iret dX12_work_61 rfl rfl rfl
    refine aj_ite (fun h => ?_) (fun h9 => ?_)
    · have h9 : x2 = (2 : Int32) := h
      refine aj_tsw (tgt := 62) (off := 46) dX12_work_16 (by rw [h9]; decide) (by rw [h9]; decide) (by rw [h9]; decide +kernel) (by decide) ?_
      refine aj_aload_n (0) dX12_work_62 rfl rfl ?_
      refine aj_getR (TX := TX12) zc12 (by decide) rfl (Or.inl zg_1362) dX12_work_63 (fun r10 => ?_)
      refine aj_iload_n (1) dX12_work_66 rfl rfl ?_
      refine r_iald dX12_work_67 (fun v11 => ?_)
      exact aj_iret dX12_work_68 rfl rfl rfl
    refine aj_ite (fun h => ?_) (fun h12 => ?_)
    · have h9 : x2 = (3 : Int32) := h
      refine aj_tsw (tgt := 69) (off := 53) dX12_work_16 (by rw [h9]; decide) (by rw [h9]; decide) (by rw [h9]; decide +kernel) (by decide) ?_
      refine aj_aload_n (0) dX12_work_69 rfl rfl ?_
      refine aj_getR (TX := TX12) zc12 (by decide) rfl (Or.inl zg_1394) dX12_work_70 (fun r13 => ?_)
      refine aj_iload_n (1) dX12_work_73 rfl rfl ?_
      refine r_iald dX12_work_74 (fun v14 => ?_)
      exact aj_iret dX12_work_75 rfl rfl rfl
    refine aj_tswO (tgt := 76) dX12_work_16 (by have a0 := lv_neT (k := (0 : Int32)) h3 (a := 0) (by decide); have a1 := lv_neT (k := (1 : Int32)) h6 (a := 1) (by decide); have a2 := lv_neT (k := (2 : Int32)) h9 (a := 2) (by decide); have a3 := lv_neT (k := (3 : Int32)) h12 (a := 3) (by decide); omega) (by decide) ?_
    refine aj_iconst (v := (-1 : Int32)) dX12_work_76 (by decide) ?_
    exact aj_iret dX12_work_77 rfl rfl rfl
  refine aj_iconst (v := (-1 : Int32)) dX12_work_13 (by decide) ?_
  exact aj_iret dX12_work_14 rfl rfl rfl
def gX12_law (S : List (Nat × Nat)) (p0 : Nat) (x1 : Int32) (x2 : Int32) (M : zM) : Option (Int64 × zM) := zpI S M (p0) 12 66 0 ((0 : Int32)) (fun M1 => (if x1 < 0 then some ((-9223372036854775808 : Int64), M1) else (if (2 : Int32) < x1 then some ((-9223372036854775808 : Int64), M1) else zrc S (p0) 12 66 ((gX12_hasLaw S (p0) (x1) M1).bind (fun v2 => (if v2 = 0 then some ((-9223372036854775808 : Int64), M1) else zrc S (p0) 12 66 ((gX12_isTrade S (p0) (x2) M1).bind (fun v3 => (if v3 = 0 then some ((-9223372036854775808 : Int64), M1) else zrc S (p0) 12 66 ((gX12_calls S (p0) ((0 : Int32)) (x2) M1).bind (fun M4 => zrc S (p0) 12 66 (zb2 (gX12_goes S (p0) (x1) M4) (fun v5 M6 => (if v5 = 0 then some ((-9223372036854775808 : Int64), M6) else zgR S M6 (p0) 12 66 31 (fun r7 => zaL S M6 (r7) ((0 : Int32)) (fun w8 => some (w8, M6)))))))))))))))))
set_option maxHeartbeats 4000000 in
set_option maxRecDepth 100000 in
theorem c_X12_law (w : zWd) (S : List (Nat × Nat)) (p0 : Nat) (x1 : Int32) (x2 : Int32) (M : zM) : CT (zfJM S) w 4 mX12_law [.ref (p0), .int (x1), .int (x2)] (S, M) (gX12_law S p0 x1 x2 M) := by
  refine CT.of (by decide) (Nat.le_of_ble_eq_true rfl) ?_
  show AJ _ _ _ _ 0 [(0, .ref (p0)), (1, .int (x1)), (2, .int (x2))] [] _ _
  unfold gX12_law
  refine aj_aload_n (0) dX12_law_0 rfl rfl ?_
  refine aj_iconst (v := (0 : Int32)) dX12_law_1 (by decide) ?_
  refine r_putI (TX := TX12) zc12 (by decide) rfl rfl rfl rfl (Or.inl zg_1350) dX12_law_2 (fun M1 => ?_)
  refine aj_iload_n (1) dX12_law_5 rfl rfl ?_
  refine aj_if_lt (tgt := 30) dX12_law_6 (by decide) (fun h => ?_) (fun h => ?_)
  · refine aj_ldc2 (v := (-9223372036854775808 : Int64)) dX12_law_30 zg_1726 ?_
    exact aj_lret dX12_law_33 rfl rfl
  refine aj_iload_n (1) dX12_law_9 rfl rfl ?_
  refine aj_iconst (v := (2 : Int32)) dX12_law_10 (by decide) ?_
  refine aj_icmp_gt (tgt := 30) dX12_law_11 (by decide) (fun h => ?_) (fun h => ?_)
  · refine aj_ldc2 (v := (-9223372036854775808 : Int64)) dX12_law_30 zg_1726 ?_
    exact aj_lret dX12_law_33 rfl rfl
  refine aj_aload_n (0) dX12_law_14 rfl rfl ?_
  refine aj_iload_n (1) dX12_law_15 rfl rfl ?_
  refine rV_I (as := [.int (x1)]) (c_X12_hasLaw w S _ _ _) mv_X12_hasLaw rfl zg_1722 (by decide) (Nat.le_of_ble_eq_true rfl) dX12_law_16 (fun v2 => ?_)
  refine aj_if_eq (tgt := 30) dX12_law_19 (by decide) (fun h => ?_) (fun h => ?_)
  · refine aj_ldc2 (v := (-9223372036854775808 : Int64)) dX12_law_30 zg_1726 ?_
    exact aj_lret dX12_law_33 rfl rfl
  refine aj_aload_n (0) dX12_law_22 rfl rfl ?_
  refine aj_iload_n (2) dX12_law_23 rfl rfl ?_
  refine rV_I (as := [.int (x2)]) (c_X12_isTrade w S _ _ _) mv_X12_isTrade rfl zg_1694 (by decide) (Nat.le_of_ble_eq_true rfl) dX12_law_24 (fun v3 => ?_)
  refine aj_if_ne (tgt := 34) dX12_law_27 (by decide) (fun h => ?_) (fun h => ?_)
  · refine aj_aload_n (0) dX12_law_34 rfl rfl ?_
    refine aj_iconst (v := (0 : Int32)) dX12_law_35 (by decide) ?_
    refine aj_iload_n (2) dX12_law_36 rfl rfl ?_
    refine rV_VM (as := [.int ((0 : Int32)), .int (x2)]) (c_X12_calls w S _ _ _ _) mv_X12_calls rfl zg_1727 (by decide) (Nat.le_of_ble_eq_true rfl) dX12_law_37 (fun M4 => ?_)
    refine aj_aload_n (0) dX12_law_40 rfl rfl ?_
    refine aj_iload_n (1) dX12_law_41 rfl rfl ?_
    refine rV_IM (as := [.int (x1)]) (c_X12_goes w S _ _ _) mv_X12_goes rfl zg_1743 (by decide) (Nat.le_of_ble_eq_true rfl) dX12_law_42 (fun v5 M6 => ?_)
    refine aj_if_eq (tgt := 57) dX12_law_45 (by decide) (fun h => ?_) (fun h => ?_)
    · refine aj_ldc2 (v := (-9223372036854775808 : Int64)) dX12_law_57 zg_1726 ?_
      exact aj_lret dX12_law_60 rfl rfl
    refine aj_aload_n (0) dX12_law_48 rfl rfl ?_
    refine aj_getR (TX := TX12) zc12 (by decide) rfl (Or.inl zg_1381) dX12_law_49 (fun r7 => ?_)
    refine aj_iconst (v := (0 : Int32)) dX12_law_52 (by decide) ?_
    refine r_lald dX12_law_53 (fun w8 => ?_)
    refine aj_goto (tgt := 60) dX12_law_54 (by decide) ?_
    exact aj_lret dX12_law_60 rfl rfl
  refine aj_ldc2 (v := (-9223372036854775808 : Int64)) dX12_law_30 zg_1726 ?_
  exact aj_lret dX12_law_33 rfl rfl
def gX12_length (S : List (Nat × Nat)) (p0 : Nat) (x1 : Int32) (M : zM) : Option (Int32 × zM) := zpI S M (p0) 12 66 0 ((0 : Int32)) (fun M1 => zrc S (p0) 12 66 ((gX12_isTrade S (p0) (x1) M1).bind (fun v2 => (if v2 = 0 then some ((-1 : Int32), M1) else zrc S (p0) 12 66 (zb2 (gX12_lengthOf S (p0) ((0 : Int32)) (x1) M1) (fun v3 M4 => some (v3, M4)))))))
set_option maxHeartbeats 4000000 in
set_option maxRecDepth 100000 in
theorem c_X12_length (w : zWd) (S : List (Nat × Nat)) (p0 : Nat) (x1 : Int32) (M : zM) : CT (zfIM S) w 6 mX12_length [.ref (p0), .int (x1)] (S, M) (gX12_length S p0 x1 M) := by
  refine CT.of (by decide) (Nat.le_of_ble_eq_true rfl) ?_
  show AJ _ _ _ _ 0 [(0, .ref (p0)), (1, .int (x1))] [] _ _
  unfold gX12_length
  refine aj_aload_n (0) dX12_length_0 rfl rfl ?_
  refine aj_iconst (v := (0 : Int32)) dX12_length_1 (by decide) ?_
  refine r_putI (TX := TX12) zc12 (by decide) rfl rfl rfl rfl (Or.inl zg_1350) dX12_length_2 (fun M1 => ?_)
  refine aj_aload_n (0) dX12_length_5 rfl rfl ?_
  refine aj_iload_n (1) dX12_length_6 rfl rfl ?_
  refine rV_I (as := [.int (x1)]) (c_X12_isTrade w S _ _ _) mv_X12_isTrade rfl zg_1694 (by decide) (Nat.le_of_ble_eq_true rfl) dX12_length_7 (fun v2 => ?_)
  refine aj_if_eq (tgt := 22) dX12_length_10 (by decide) (fun h => ?_) (fun h => ?_)
  · refine aj_iconst (v := (-1 : Int32)) dX12_length_22 (by decide) ?_
    exact aj_iret dX12_length_23 rfl rfl rfl
  refine aj_aload_n (0) dX12_length_13 rfl rfl ?_
  refine aj_iconst (v := (0 : Int32)) dX12_length_14 (by decide) ?_
  refine aj_iload_n (1) dX12_length_15 rfl rfl ?_
  refine rV_IM (as := [.int ((0 : Int32)), .int (x1)]) (c_X12_lengthOf w S _ _ _ _) mv_X12_lengthOf rfl zg_1761 (by decide) (Nat.le_of_ble_eq_true rfl) dX12_length_16 (fun v3 M4 => ?_)
  refine aj_goto (tgt := 23) dX12_length_19 (by decide) ?_
  exact aj_iret dX12_length_23 rfl rfl rfl
def gX12_keepNow_11 (S : List (Nat × Nat)) : Nat → Nat → Int32 → zM → Option zM
  | 0 => fun _ _ _ => none
  | n + 1 => fun p0 x1 M => (if (20 : Int32) ≤ x1 then zgI S M (p0) 12 66 46 (fun v1 => zpI S M (p0) 12 66 46 ((v1 - (1 : Int32))) (fun M2 => zgI S M2 (p0) 12 66 46 (fun v3 => zrc S (p0) 12 66 ((gX12_copies S (p0) (((3 : Int32) + v3)) ((0 : Int32)) M2).bind (fun M4 => zgI S M4 (p0) 12 66 46 (fun v5 => zpI S M4 (p0) 12 66 46 ((v5 + (1 : Int32))) (fun M6 => some M6))))))) else zrc S (p0) 12 66 ((gX12_copies S (p0) ((((3 : Int32) + x1) - (1 : Int32))) (((3 : Int32) + x1)) M).bind (fun M7 => (gX12_keepNow_11 S   n) (p0) ((x1 + (1 : Int32))) M7)))
set_option maxHeartbeats 4000000 in
set_option maxRecDepth 100000 in
theorem t_X12_keepNow_11 (w : zWd) (S : List (Nat × Nat)) (fu : Nat) : ∀ (p0 : Nat) (x1 : Int32) (M : zM), AJ (zfVM S) w 2 mX12_keepNow 11 [(0, .ref (p0)), (1, .int (x1))] [] (S, M) (gX12_keepNow_11 S fu p0 x1 M) := by
  induction fu with
  | zero => intro p0 x1 M; exact AJ.none
  | succ n ih =>
    intro p0 x1 M
    unfold gX12_keepNow_11
    refine aj_iload_n (1) dX12_keepNow_11 rfl rfl ?_
    refine aj_bipush (v := (20 : Int32)) dX12_keepNow_12 (by decide) ?_
    refine aj_icmp_ge (tgt := 35) dX12_keepNow_14 (by decide) (fun h => ?_) (fun h => ?_)
    · refine aj_aload_n (0) dX12_keepNow_35 rfl rfl ?_
      refine aj_dup dX12_keepNow_36 rfl ?_
      refine r_getI (TX := TX12) zc12 (by decide) rfl (Or.inl zg_1396) dX12_keepNow_37 (fun v1 => ?_)
      refine aj_iconst (v := (1 : Int32)) dX12_keepNow_40 (by decide) ?_
      refine aj_isub dX12_keepNow_41 ?_
      refine r_putI (TX := TX12) zc12 (by decide) rfl rfl rfl rfl (Or.inl zg_1396) dX12_keepNow_42 (fun M2 => ?_)
      refine aj_aload_n (0) dX12_keepNow_45 rfl rfl ?_
      refine aj_iconst (v := (3 : Int32)) dX12_keepNow_46 (by decide) ?_
      refine aj_aload_n (0) dX12_keepNow_47 rfl rfl ?_
      refine r_getI (TX := TX12) zc12 (by decide) rfl (Or.inl zg_1396) dX12_keepNow_48 (fun v3 => ?_)
      refine aj_iadd dX12_keepNow_51 ?_
      refine aj_iconst (v := (0 : Int32)) dX12_keepNow_52 (by decide) ?_
      refine rV_VM (as := [.int (((3 : Int32) + v3)), .int ((0 : Int32))]) (c_X12_copies w S _ _ _ _) mv_X12_copies rfl zg_1779 (by decide) (Nat.le_of_ble_eq_true rfl) dX12_keepNow_53 (fun M4 => ?_)
      refine aj_aload_n (0) dX12_keepNow_56 rfl rfl ?_
      refine aj_dup dX12_keepNow_57 rfl ?_
      refine r_getI (TX := TX12) zc12 (by decide) rfl (Or.inl zg_1396) dX12_keepNow_58 (fun v5 => ?_)
      refine aj_iconst (v := (1 : Int32)) dX12_keepNow_61 (by decide) ?_
      refine aj_iadd dX12_keepNow_62 ?_
      refine r_putI (TX := TX12) zc12 (by decide) rfl rfl rfl rfl (Or.inl zg_1396) dX12_keepNow_63 (fun M6 => ?_)
      exact aj_vret dX12_keepNow_66 rfl rfl
    refine aj_aload_n (0) dX12_keepNow_17 rfl rfl ?_
    refine aj_iconst (v := (3 : Int32)) dX12_keepNow_18 (by decide) ?_
    refine aj_iload_n (1) dX12_keepNow_19 rfl rfl ?_
    refine aj_iadd dX12_keepNow_20 ?_
    refine aj_iconst (v := (1 : Int32)) dX12_keepNow_21 (by decide) ?_
    refine aj_isub dX12_keepNow_22 ?_
    refine aj_iconst (v := (3 : Int32)) dX12_keepNow_23 (by decide) ?_
    refine aj_iload_n (1) dX12_keepNow_24 rfl rfl ?_
    refine aj_iadd dX12_keepNow_25 ?_
    refine rV_VM (as := [.int ((((3 : Int32) + x1) - (1 : Int32))), .int (((3 : Int32) + x1))]) (c_X12_copies w S _ _ _ _) mv_X12_copies rfl zg_1779 (by decide) (Nat.le_of_ble_eq_true rfl) dX12_keepNow_26 (fun M7 => ?_)
    refine aj_iinc (j := 1) (v := (x1 + (1 : Int32))) (ls2 := [(1, .int ((x1 + (1 : Int32)))), (0, .ref (p0))]) dX12_keepNow_29 rfl rfl (Nat.le_of_ble_eq_true rfl) rfl ?_
    refine aj_goto (tgt := 11) dX12_keepNow_32 (by decide) ?_
    refine AJ.sub [1, 0] rfl ?_
    exact ih (p0) ((x1 + (1 : Int32))) M7
def gX12_keepNow (S : List (Nat × Nat)) (p0 : Nat) (M : zM) : Option zM := zgI S M (p0) 12 66 46 (fun v1 => (if v1 = (20 : Int32) then gX12_keepNow_11 S zfu (p0) ((1 : Int32)) M else zgI S M (p0) 12 66 46 (fun v2 => zrc S (p0) 12 66 ((gX12_copies S (p0) (((3 : Int32) + v2)) ((0 : Int32)) M).bind (fun M3 => zgI S M3 (p0) 12 66 46 (fun v4 => zpI S M3 (p0) 12 66 46 ((v4 + (1 : Int32))) (fun M5 => some M5)))))))
set_option maxHeartbeats 4000000 in
set_option maxRecDepth 100000 in
theorem c_X12_keepNow (w : zWd) (S : List (Nat × Nat)) (p0 : Nat) (M : zM) : CT (zfVM S) w 2 mX12_keepNow [.ref (p0)] (S, M) (gX12_keepNow S p0 M) := by
  refine CT.of (by decide) (Nat.le_of_ble_eq_true rfl) ?_
  show AJ _ _ _ _ 0 [(0, .ref (p0))] [] _ _
  unfold gX12_keepNow
  refine aj_aload_n (0) dX12_keepNow_0 rfl rfl ?_
  refine r_getI (TX := TX12) zc12 (by decide) rfl (Or.inl zg_1396) dX12_keepNow_1 (fun v1 => ?_)
  refine aj_bipush (v := (20 : Int32)) dX12_keepNow_4 (by decide) ?_
  refine aj_icmp_ne (tgt := 45) dX12_keepNow_6 (by decide) (fun h => ?_) (fun h => ?_)
  · refine aj_aload_n (0) dX12_keepNow_45 rfl rfl ?_
    refine aj_iconst (v := (3 : Int32)) dX12_keepNow_46 (by decide) ?_
    refine aj_aload_n (0) dX12_keepNow_47 rfl rfl ?_
    refine r_getI (TX := TX12) zc12 (by decide) rfl (Or.inl zg_1396) dX12_keepNow_48 (fun v2 => ?_)
    refine aj_iadd dX12_keepNow_51 ?_
    refine aj_iconst (v := (0 : Int32)) dX12_keepNow_52 (by decide) ?_
    refine rV_VM (as := [.int (((3 : Int32) + v2)), .int ((0 : Int32))]) (c_X12_copies w S _ _ _ _) mv_X12_copies rfl zg_1779 (by decide) (Nat.le_of_ble_eq_true rfl) dX12_keepNow_53 (fun M3 => ?_)
    refine aj_aload_n (0) dX12_keepNow_56 rfl rfl ?_
    refine aj_dup dX12_keepNow_57 rfl ?_
    refine r_getI (TX := TX12) zc12 (by decide) rfl (Or.inl zg_1396) dX12_keepNow_58 (fun v4 => ?_)
    refine aj_iconst (v := (1 : Int32)) dX12_keepNow_61 (by decide) ?_
    refine aj_iadd dX12_keepNow_62 ?_
    refine r_putI (TX := TX12) zc12 (by decide) rfl rfl rfl rfl (Or.inl zg_1396) dX12_keepNow_63 (fun M5 => ?_)
    exact aj_vret dX12_keepNow_66 rfl rfl
  refine aj_iconst (v := (1 : Int32)) dX12_keepNow_9 (by decide) ?_
  refine aj_istore_n (ls2 := [(1, .int ((1 : Int32))), (0, .ref (p0))]) dX12_keepNow_10 rfl (Nat.le_of_ble_eq_true rfl) rfl ?_
  refine AJ.sub [1, 0] rfl ?_
  exact t_X12_keepNow_11 w S zfu (p0) ((1 : Int32)) M
def gX12_appoint (S : List (Nat × Nat)) (p0 : Nat) (x1 : Int32) (M : zM) : Option (Int32 × zM) := zpI S M (p0) 12 66 0 ((0 : Int32)) (fun M1 => zrc S (p0) 12 66 ((gX12_isTrade S (p0) (x1) M1).bind (fun v2 => (if v2 = 0 then some ((0 : Int32), M1) else zrc S (p0) 12 66 ((gX12_keepNow S (p0) M1).bind (fun M3 => zgR S M3 (p0) 12 66 36 (fun r4 => zbI S M3 (r4) ((0 : Int32)) (x1) (fun M5 => some ((1 : Int32), M5)))))))))
set_option maxHeartbeats 4000000 in
set_option maxRecDepth 100000 in
theorem c_X12_appoint (w : zWd) (S : List (Nat × Nat)) (p0 : Nat) (x1 : Int32) (M : zM) : CT (zfIM S) w 3 mX12_appoint [.ref (p0), .int (x1)] (S, M) (gX12_appoint S p0 x1 M) := by
  refine CT.of (by decide) (Nat.le_of_ble_eq_true rfl) ?_
  show AJ _ _ _ _ 0 [(0, .ref (p0)), (1, .int (x1))] [] _ _
  unfold gX12_appoint
  refine aj_aload_n (0) dX12_appoint_0 rfl rfl ?_
  refine aj_iconst (v := (0 : Int32)) dX12_appoint_1 (by decide) ?_
  refine r_putI (TX := TX12) zc12 (by decide) rfl rfl rfl rfl (Or.inl zg_1350) dX12_appoint_2 (fun M1 => ?_)
  refine aj_aload_n (0) dX12_appoint_5 rfl rfl ?_
  refine aj_iload_n (1) dX12_appoint_6 rfl rfl ?_
  refine rV_I (as := [.int (x1)]) (c_X12_isTrade w S _ _ _) mv_X12_isTrade rfl zg_1694 (by decide) (Nat.le_of_ble_eq_true rfl) dX12_appoint_7 (fun v2 => ?_)
  refine aj_if_ne (tgt := 15) dX12_appoint_10 (by decide) (fun h => ?_) (fun h => ?_)
  · refine aj_aload_n (0) dX12_appoint_15 rfl rfl ?_
    refine rV_VM (as := []) (c_X12_keepNow w S _ _) mv_X12_keepNow rfl zg_1775 (by decide) (Nat.le_of_ble_eq_true rfl) dX12_appoint_16 (fun M3 => ?_)
    refine aj_aload_n (0) dX12_appoint_19 rfl rfl ?_
    refine aj_getR (TX := TX12) zc12 (by decide) rfl (Or.inl zg_1386) dX12_appoint_20 (fun r4 => ?_)
    refine aj_iconst (v := (0 : Int32)) dX12_appoint_23 (by decide) ?_
    refine aj_iload_n (1) dX12_appoint_24 rfl rfl ?_
    refine r_iast dX12_appoint_25 (fun M5 => ?_)
    refine aj_iconst (v := (1 : Int32)) dX12_appoint_26 (by decide) ?_
    exact aj_iret dX12_appoint_27 rfl (by decide +kernel) rfl
  refine aj_iconst (v := (0 : Int32)) dX12_appoint_13 (by decide) ?_
  exact aj_iret dX12_appoint_14 rfl (by decide +kernel) rfl
def gX12_put (S : List (Nat × Nat)) (p0 : Nat) (x1 : Int32) (x2 : Int32) (M : zM) : Option (Int32 × zM) := zpI S M (p0) 12 66 0 ((0 : Int32)) (fun M1 => zrc S (p0) 12 66 ((gX12_isPlace S (p0) (x1) M1).bind (fun v2 => (if v2 = 0 then some ((-1 : Int32), M1) else zrc S (p0) 12 66 ((gX12_isTrade S (p0) (x2) M1).bind (fun v3 => (if v3 = 0 then some ((-1 : Int32), M1) else zrc S (p0) 12 66 ((gX12_keepNow S (p0) M1).bind (fun M4 => zgR S M4 (p0) 12 66 43 (fun r5 => zaI S M4 100 (r5) (x1) (fun v6 => zgR S M4 (p0) 12 66 43 (fun r7 => zbI S M4 (r7) (x1) (x2) (fun M8 => some (v6, M8))))))))))))))
set_option maxHeartbeats 4000000 in
set_option maxRecDepth 100000 in
theorem c_X12_put (w : zWd) (S : List (Nat × Nat)) (p0 : Nat) (x1 : Int32) (x2 : Int32) (M : zM) : CT (zfIM S) w 3 mX12_put [.ref (p0), .int (x1), .int (x2)] (S, M) (gX12_put S p0 x1 x2 M) := by
  refine CT.of (by decide) (Nat.le_of_ble_eq_true rfl) ?_
  show AJ _ _ _ _ 0 [(0, .ref (p0)), (1, .int (x1)), (2, .int (x2))] [] _ _
  unfold gX12_put
  refine aj_aload_n (0) dX12_put_0 rfl rfl ?_
  refine aj_iconst (v := (0 : Int32)) dX12_put_1 (by decide) ?_
  refine r_putI (TX := TX12) zc12 (by decide) rfl rfl rfl rfl (Or.inl zg_1350) dX12_put_2 (fun M1 => ?_)
  refine aj_aload_n (0) dX12_put_5 rfl rfl ?_
  refine aj_iload_n (1) dX12_put_6 rfl rfl ?_
  refine rV_I (as := [.int (x1)]) (c_X12_isPlace w S _ _ _) mv_X12_isPlace rfl zg_1706 (by decide) (Nat.le_of_ble_eq_true rfl) dX12_put_7 (fun v2 => ?_)
  refine aj_if_eq (tgt := 21) dX12_put_10 (by decide) (fun h => ?_) (fun h => ?_)
  · refine aj_iconst (v := (-1 : Int32)) dX12_put_21 (by decide) ?_
    exact aj_iret dX12_put_22 rfl rfl rfl
  refine aj_aload_n (0) dX12_put_13 rfl rfl ?_
  refine aj_iload_n (2) dX12_put_14 rfl rfl ?_
  refine rV_I (as := [.int (x2)]) (c_X12_isTrade w S _ _ _) mv_X12_isTrade rfl zg_1694 (by decide) (Nat.le_of_ble_eq_true rfl) dX12_put_15 (fun v3 => ?_)
  refine aj_if_ne (tgt := 23) dX12_put_18 (by decide) (fun h => ?_) (fun h => ?_)
  · refine aj_aload_n (0) dX12_put_23 rfl rfl ?_
    refine rV_VM (as := []) (c_X12_keepNow w S _ _) mv_X12_keepNow rfl zg_1775 (by decide) (Nat.le_of_ble_eq_true rfl) dX12_put_24 (fun M4 => ?_)
    refine aj_aload_n (0) dX12_put_27 rfl rfl ?_
    refine aj_getR (TX := TX12) zc12 (by decide) rfl (Or.inl zg_1393) dX12_put_28 (fun r5 => ?_)
    refine aj_iload_n (1) dX12_put_31 rfl rfl ?_
    refine r_iald dX12_put_32 (fun v6 => ?_)
    refine aj_istore_n (ls2 := [(3, .int (v6)), (0, .ref (p0)), (1, .int (x1)), (2, .int (x2))]) dX12_put_33 rfl (Nat.le_of_ble_eq_true rfl) rfl ?_
    refine aj_aload_n (1) dX12_put_34 rfl rfl ?_
    refine aj_getR (TX := TX12) zc12 (by decide) rfl (Or.inl zg_1393) dX12_put_35 (fun r7 => ?_)
    refine aj_iload_n (2) dX12_put_38 rfl rfl ?_
    refine aj_iload_n (3) dX12_put_39 rfl rfl ?_
    refine r_iast dX12_put_40 (fun M8 => ?_)
    refine aj_iload_n (0) dX12_put_41 rfl rfl ?_
    exact aj_iret dX12_put_42 rfl rfl rfl
  refine aj_iconst (v := (-1 : Int32)) dX12_put_21 (by decide) ?_
  exact aj_iret dX12_put_22 rfl rfl rfl
def gX12_swap (S : List (Nat × Nat)) (p0 : Nat) (x1 : Int32) (x2 : Int32) (M : zM) : Option (Int32 × zM) := zpI S M (p0) 12 66 0 ((0 : Int32)) (fun M1 => zrc S (p0) 12 66 ((gX12_isPlace S (p0) (x1) M1).bind (fun v2 => (if v2 = 0 then some ((0 : Int32), M1) else zrc S (p0) 12 66 ((gX12_isPlace S (p0) (x2) M1).bind (fun v3 => (if v3 = 0 then some ((0 : Int32), M1) else (if x1 = x2 then some ((0 : Int32), M1) else zgR S M1 (p0) 12 66 43 (fun r4 => zaI S M1 100 (r4) (x1) (fun v5 => zgR S M1 (p0) 12 66 43 (fun r6 => zaI S M1 100 (r6) (x2) (fun v7 => (if v5 = v7 then some ((0 : Int32), M1) else zrc S (p0) 12 66 ((gX12_keepNow S (p0) M1).bind (fun M8 => zgR S M8 (p0) 12 66 43 (fun r9 => zaI S M8 100 (r9) (x1) (fun v10 => zgR S M8 (p0) 12 66 43 (fun r11 => zgR S M8 (p0) 12 66 43 (fun r12 => zaI S M8 100 (r12) (x2) (fun v13 => zbI S M8 (r11) (x1) (v13) (fun M14 => zgR S M14 (p0) 12 66 43 (fun r15 => zbI S M14 (r15) (x2) (v10) (fun M16 => some ((1 : Int32), M16))))))))))))))))))))))))
set_option maxHeartbeats 4000000 in
set_option maxRecDepth 100000 in
theorem c_X12_swap (w : zWd) (S : List (Nat × Nat)) (p0 : Nat) (x1 : Int32) (x2 : Int32) (M : zM) : CT (zfIM S) w 3 mX12_swap [.ref (p0), .int (x1), .int (x2)] (S, M) (gX12_swap S p0 x1 x2 M) := by
  refine CT.of (by decide) (Nat.le_of_ble_eq_true rfl) ?_
  show AJ _ _ _ _ 0 [(0, .ref (p0)), (1, .int (x1)), (2, .int (x2))] [] _ _
  unfold gX12_swap
  refine aj_aload_n (0) dX12_swap_0 rfl rfl ?_
  refine aj_iconst (v := (0 : Int32)) dX12_swap_1 (by decide) ?_
  refine r_putI (TX := TX12) zc12 (by decide) rfl rfl rfl rfl (Or.inl zg_1350) dX12_swap_2 (fun M1 => ?_)
  refine aj_aload_n (0) dX12_swap_5 rfl rfl ?_
  refine aj_iload_n (1) dX12_swap_6 rfl rfl ?_
  refine rV_I (as := [.int (x1)]) (c_X12_isPlace w S _ _ _) mv_X12_isPlace rfl zg_1706 (by decide) (Nat.le_of_ble_eq_true rfl) dX12_swap_7 (fun v2 => ?_)
  refine aj_if_eq (tgt := 41) dX12_swap_10 (by decide) (fun h => ?_) (fun h => ?_)
  · refine aj_iconst (v := (0 : Int32)) dX12_swap_41 (by decide) ?_
    exact aj_iret dX12_swap_42 rfl (by decide +kernel) rfl
  refine aj_aload_n (0) dX12_swap_13 rfl rfl ?_
  refine aj_iload_n (2) dX12_swap_14 rfl rfl ?_
  refine rV_I (as := [.int (x2)]) (c_X12_isPlace w S _ _ _) mv_X12_isPlace rfl zg_1706 (by decide) (Nat.le_of_ble_eq_true rfl) dX12_swap_15 (fun v3 => ?_)
  refine aj_if_eq (tgt := 41) dX12_swap_18 (by decide) (fun h => ?_) (fun h => ?_)
  · refine aj_iconst (v := (0 : Int32)) dX12_swap_41 (by decide) ?_
    exact aj_iret dX12_swap_42 rfl (by decide +kernel) rfl
  refine aj_iload_n (1) dX12_swap_21 rfl rfl ?_
  refine aj_iload_n (2) dX12_swap_22 rfl rfl ?_
  refine aj_icmp_eq (tgt := 41) dX12_swap_23 (by decide) (fun h => ?_) (fun h => ?_)
  · refine aj_iconst (v := (0 : Int32)) dX12_swap_41 (by decide) ?_
    exact aj_iret dX12_swap_42 rfl (by decide +kernel) rfl
  refine aj_aload_n (0) dX12_swap_26 rfl rfl ?_
  refine aj_getR (TX := TX12) zc12 (by decide) rfl (Or.inl zg_1393) dX12_swap_27 (fun r4 => ?_)
  refine aj_iload_n (1) dX12_swap_30 rfl rfl ?_
  refine r_iald dX12_swap_31 (fun v5 => ?_)
  refine aj_aload_n (0) dX12_swap_32 rfl rfl ?_
  refine aj_getR (TX := TX12) zc12 (by decide) rfl (Or.inl zg_1393) dX12_swap_33 (fun r6 => ?_)
  refine aj_iload_n (2) dX12_swap_36 rfl rfl ?_
  refine r_iald dX12_swap_37 (fun v7 => ?_)
  refine aj_icmp_ne (tgt := 43) dX12_swap_38 (by decide) (fun h => ?_) (fun h => ?_)
  · refine aj_aload_n (0) dX12_swap_43 rfl rfl ?_
    refine rV_VM (as := []) (c_X12_keepNow w S _ _) mv_X12_keepNow rfl zg_1775 (by decide) (Nat.le_of_ble_eq_true rfl) dX12_swap_44 (fun M8 => ?_)
    refine aj_aload_n (0) dX12_swap_47 rfl rfl ?_
    refine aj_getR (TX := TX12) zc12 (by decide) rfl (Or.inl zg_1393) dX12_swap_48 (fun r9 => ?_)
    refine aj_iload_n (1) dX12_swap_51 rfl rfl ?_
    refine r_iald dX12_swap_52 (fun v10 => ?_)
    refine aj_istore_n (ls2 := [(3, .int (v10)), (0, .ref (p0)), (1, .int (x1)), (2, .int (x2))]) dX12_swap_53 rfl (Nat.le_of_ble_eq_true rfl) rfl ?_
    refine aj_aload_n (1) dX12_swap_54 rfl rfl ?_
    refine aj_getR (TX := TX12) zc12 (by decide) rfl (Or.inl zg_1393) dX12_swap_55 (fun r11 => ?_)
    refine aj_iload_n (2) dX12_swap_58 rfl rfl ?_
    refine aj_aload_n (1) dX12_swap_59 rfl rfl ?_
    refine aj_getR (TX := TX12) zc12 (by decide) rfl (Or.inl zg_1393) dX12_swap_60 (fun r12 => ?_)
    refine aj_iload_n (3) dX12_swap_63 rfl rfl ?_
    refine r_iald dX12_swap_64 (fun v13 => ?_)
    refine r_iast dX12_swap_65 (fun M14 => ?_)
    refine aj_aload_n (1) dX12_swap_66 rfl rfl ?_
    refine aj_getR (TX := TX12) zc12 (by decide) rfl (Or.inl zg_1393) dX12_swap_67 (fun r15 => ?_)
    refine aj_iload_n (3) dX12_swap_70 rfl rfl ?_
    refine aj_iload_n (0) dX12_swap_71 rfl rfl ?_
    refine r_iast dX12_swap_72 (fun M16 => ?_)
    refine aj_iconst (v := (1 : Int32)) dX12_swap_73 (by decide) ?_
    exact aj_iret dX12_swap_74 rfl (by decide +kernel) rfl
  refine aj_iconst (v := (0 : Int32)) dX12_swap_41 (by decide) ?_
  exact aj_iret dX12_swap_42 rfl (by decide +kernel) rfl
def gX12_go_43 (S : List (Nat × Nat)) : Nat → Nat → Int32 → Int32 → zM → Option (Int32 × zM)
  | 0 => fun _ _ _ _ => none
  | n + 1 => fun p0 x1 x2 M => (if x1 ≤ x2 then zgR S M (p0) 12 66 33 (fun r1 => zaI S M 100 (r1) ((0 : Int32)) (fun v2 => some (v2, M))) else zrc S (p0) 12 66 ((gX12_passes S (p0) ((0 : Int32)) ((1 : Int32)) M).bind (fun M3 => (gX12_go_43 S   n) (p0) (x1) ((x2 + (1 : Int32))) M3)))
set_option maxHeartbeats 4000000 in
set_option maxRecDepth 100000 in
theorem t_X12_go_43 (w : zWd) (S : List (Nat × Nat)) (fu : Nat) : ∀ (p0 : Nat) (x1 : Int32) (x2 : Int32) (M : zM), AJ (zfIM S) w 8 mX12_go 43 [(0, .ref (p0)), (1, .int (x1)), (2, .int (x2))] [] (S, M) (gX12_go_43 S fu p0 x1 x2 M) := by
  induction fu with
  | zero => intro p0 x1 x2 M; exact AJ.none
  | succ n ih =>
    intro p0 x1 x2 M
    unfold gX12_go_43
    refine aj_iload_n (2) dX12_go_43 rfl rfl ?_
    refine aj_iload_n (1) dX12_go_44 rfl rfl ?_
    refine aj_icmp_ge (tgt := 60) dX12_go_45 (by decide) (fun h => ?_) (fun h => ?_)
    · refine aj_aload_n (0) dX12_go_60 rfl rfl ?_
      refine aj_getR (TX := TX12) zc12 (by decide) rfl (Or.inl zg_1383) dX12_go_61 (fun r1 => ?_)
      refine aj_iconst (v := (0 : Int32)) dX12_go_64 (by decide) ?_
      refine r_iald dX12_go_65 (fun v2 => ?_)
      exact aj_iret dX12_go_66 rfl rfl rfl
    refine aj_aload_n (0) dX12_go_48 rfl rfl ?_
    refine aj_iconst (v := (0 : Int32)) dX12_go_49 (by decide) ?_
    refine aj_iconst (v := (1 : Int32)) dX12_go_50 (by decide) ?_
    refine rV_VM (as := [.int ((0 : Int32)), .int ((1 : Int32))]) (c_X12_passes w S _ _ _ _) mv_X12_passes rfl zg_1795 (by decide) (Nat.le_of_ble_eq_true rfl) dX12_go_51 (fun M3 => ?_)
    refine aj_iinc (j := 2) (v := (x2 + (1 : Int32))) (ls2 := [(2, .int ((x2 + (1 : Int32)))), (0, .ref (p0)), (1, .int (x1))]) dX12_go_54 rfl rfl (Nat.le_of_ble_eq_true rfl) rfl ?_
    refine aj_goto (tgt := 43) dX12_go_57 (by decide) ?_
    refine AJ.sub [1, 2, 0] rfl ?_
    exact ih (p0) (x1) ((x2 + (1 : Int32))) M3
def gX12_go (S : List (Nat × Nat)) (p0 : Nat) (x1 : Int32) (M : zM) : Option (Int32 × zM) := zpI S M (p0) 12 66 0 ((0 : Int32)) (fun M1 => (if x1 < 0 then some ((-1 : Int32), M1) else (if (200 : Int32) < x1 then some ((-1 : Int32), M1) else zgR S M1 (p0) 12 66 33 (fun r2 => zaI S M1 100 (r2) ((0 : Int32)) (fun v3 => (if (v3 + x1) ≤ (9800 : Int32) then (if x1 ≤ 0 then gX12_go_43 S zfu (p0) (x1) ((0 : Int32)) M1 else zpI S M1 (p0) 12 66 46 ((0 : Int32)) (fun M4 => gX12_go_43 S zfu (p0) (x1) ((0 : Int32)) M4)) else some ((-1 : Int32), M1)))))))
set_option maxHeartbeats 4000000 in
set_option maxRecDepth 100000 in
theorem c_X12_go (w : zWd) (S : List (Nat × Nat)) (p0 : Nat) (x1 : Int32) (M : zM) : CT (zfIM S) w 8 mX12_go [.ref (p0), .int (x1)] (S, M) (gX12_go S p0 x1 M) := by
  refine CT.of (by decide) (Nat.le_of_ble_eq_true rfl) ?_
  show AJ _ _ _ _ 0 [(0, .ref (p0)), (1, .int (x1))] [] _ _
  unfold gX12_go
  refine aj_aload_n (0) dX12_go_0 rfl rfl ?_
  refine aj_iconst (v := (0 : Int32)) dX12_go_1 (by decide) ?_
  refine r_putI (TX := TX12) zc12 (by decide) rfl rfl rfl rfl (Or.inl zg_1350) dX12_go_2 (fun M1 => ?_)
  refine aj_iload_n (1) dX12_go_5 rfl rfl ?_
  refine aj_if_lt (tgt := 30) dX12_go_6 (by decide) (fun h => ?_) (fun h => ?_)
  · refine aj_iconst (v := (-1 : Int32)) dX12_go_30 (by decide) ?_
    exact aj_iret dX12_go_31 rfl rfl rfl
  refine aj_iload_n (1) dX12_go_9 rfl rfl ?_
  refine aj_sipush (v := (200 : Int32)) dX12_go_10 (by decide) ?_
  refine aj_icmp_gt (tgt := 30) dX12_go_13 (by decide) (fun h => ?_) (fun h => ?_)
  · refine aj_iconst (v := (-1 : Int32)) dX12_go_30 (by decide) ?_
    exact aj_iret dX12_go_31 rfl rfl rfl
  refine aj_aload_n (0) dX12_go_16 rfl rfl ?_
  refine aj_getR (TX := TX12) zc12 (by decide) rfl (Or.inl zg_1383) dX12_go_17 (fun r2 => ?_)
  refine aj_iconst (v := (0 : Int32)) dX12_go_20 (by decide) ?_
  refine r_iald dX12_go_21 (fun v3 => ?_)
  refine aj_iload_n (1) dX12_go_22 rfl rfl ?_
  refine aj_iadd dX12_go_23 ?_
  refine aj_sipush (v := (9800 : Int32)) dX12_go_24 (by decide) ?_
  refine aj_icmp_le (tgt := 32) dX12_go_27 (by decide) (fun h => ?_) (fun h => ?_)
  · refine aj_iload_n (1) dX12_go_32 rfl rfl ?_
    refine aj_if_le (tgt := 41) dX12_go_33 (by decide) (fun h => ?_) (fun h => ?_)
    · refine aj_iconst (v := (0 : Int32)) dX12_go_41 (by decide) ?_
      refine aj_istore_n (ls2 := [(2, .int ((0 : Int32))), (0, .ref (p0)), (1, .int (x1))]) dX12_go_42 rfl (Nat.le_of_ble_eq_true rfl) rfl ?_
      refine AJ.sub [1, 2, 0] rfl ?_
      exact t_X12_go_43 w S zfu (p0) (x1) ((0 : Int32)) M1
    refine aj_aload_n (0) dX12_go_36 rfl rfl ?_
    refine aj_iconst (v := (0 : Int32)) dX12_go_37 (by decide) ?_
    refine r_putI (TX := TX12) zc12 (by decide) rfl rfl rfl rfl (Or.inl zg_1396) dX12_go_38 (fun M4 => ?_)
    refine aj_iconst (v := (0 : Int32)) dX12_go_41 (by decide) ?_
    refine aj_istore_n (ls2 := [(2, .int ((0 : Int32))), (0, .ref (p0)), (1, .int (x1))]) dX12_go_42 rfl (Nat.le_of_ble_eq_true rfl) rfl ?_
    refine AJ.sub [1, 2, 0] rfl ?_
    exact t_X12_go_43 w S zfu (p0) (x1) ((0 : Int32)) M4
  refine aj_iconst (v := (-1 : Int32)) dX12_go_30 (by decide) ?_
  exact aj_iret dX12_go_31 rfl rfl rfl
def gX12_isAhead (S : List (Nat × Nat)) (x0 : Int32) (M : zM) : Option Int32 := (if x0 < 0 then some ((0 : Int32)) else (if (200 : Int32) < x0 then some ((0 : Int32)) else some ((1 : Int32))))
set_option maxHeartbeats 4000000 in
set_option maxRecDepth 100000 in
theorem c_X12_isAhead (w : zWd) (S : List (Nat × Nat)) (x0 : Int32) (M : zM) : CT (zfI S M) w 1 mX12_isAhead [.int (x0)] (S, M) (gX12_isAhead S x0 M) := by
  refine CT.of (by decide) (Nat.le_of_ble_eq_true rfl) ?_
  show AJ _ _ _ _ 0 [(0, .int (x0))] [] _ _
  unfold gX12_isAhead
  refine aj_iload_n (0) dX12_isAhead_0 rfl rfl ?_
  refine aj_if_lt (tgt := 15) dX12_isAhead_1 (by decide) (fun h => ?_) (fun h => ?_)
  · refine aj_iconst (v := (0 : Int32)) dX12_isAhead_15 (by decide) ?_
    exact aj_iret dX12_isAhead_16 rfl (by decide +kernel) rfl
  refine aj_iload_n (0) dX12_isAhead_4 rfl rfl ?_
  refine aj_sipush (v := (200 : Int32)) dX12_isAhead_5 (by decide) ?_
  refine aj_icmp_gt (tgt := 15) dX12_isAhead_8 (by decide) (fun h => ?_) (fun h => ?_)
  · refine aj_iconst (v := (0 : Int32)) dX12_isAhead_15 (by decide) ?_
    exact aj_iret dX12_isAhead_16 rfl (by decide +kernel) rfl
  refine aj_iconst (v := (1 : Int32)) dX12_isAhead_11 (by decide) ?_
  refine aj_goto (tgt := 16) dX12_isAhead_12 (by decide) ?_
  exact aj_iret dX12_isAhead_16 rfl (by decide +kernel) rfl
def gX12_lengthsIn_4 (S : List (Nat × Nat)) : Nat → Nat → Int32 → Int32 → Int32 → zM → Option (Int32 × zM)
  | 0 => fun _ _ _ _ _ => none
  | n + 1 => fun p0 x1 x2 x3 M => (if x1 ≤ x3 then some (x2, M) else zrc S (p0) 12 66 ((gX12_passes S (p0) ((1 : Int32)) ((0 : Int32)) M).bind (fun M1 => zgR S M1 (p0) 12 66 40 (fun r2 => zaI S M1 100 (r2) ((1 : Int32)) (fun v3 => (if v3 = (-1 : Int32) then (gX12_lengthsIn_4 S   n) (p0) (x1) ((x2 + (0 : Int32))) ((x3 + (1 : Int32))) M1 else zgR S M1 (p0) 12 66 39 (fun r4 => zaI S M1 100 (r4) ((1 : Int32)) (fun v5 => (gX12_lengthsIn_4 S   n) (p0) (x1) ((x2 + v5)) ((x3 + (1 : Int32))) M1))))))))
set_option maxHeartbeats 4000000 in
set_option maxRecDepth 100000 in
theorem t_X12_lengthsIn_4 (w : zWd) (S : List (Nat × Nat)) (fu : Nat) : ∀ (p0 : Nat) (x1 : Int32) (x2 : Int32) (x3 : Int32) (M : zM), AJ (zfIM S) w 8 mX12_lengthsIn 4 [(0, .ref (p0)), (1, .int (x1)), (2, .int (x2)), (3, .int (x3))] [] (S, M) (gX12_lengthsIn_4 S fu p0 x1 x2 x3 M) := by
  induction fu with
  | zero => intro p0 x1 x2 x3 M; exact AJ.none
  | succ n ih =>
    intro p0 x1 x2 x3 M
    unfold gX12_lengthsIn_4
    refine aj_iload_n (3) dX12_lengthsIn_4 rfl rfl ?_
    refine aj_iload_n (1) dX12_lengthsIn_5 rfl rfl ?_
    refine aj_icmp_ge (tgt := 44) dX12_lengthsIn_6 (by decide) (fun h => ?_) (fun h => ?_)
    · refine aj_iload_n (2) dX12_lengthsIn_44 rfl rfl ?_
      exact aj_iret dX12_lengthsIn_45 rfl rfl rfl
    refine aj_aload_n (0) dX12_lengthsIn_9 rfl rfl ?_
    refine aj_iconst (v := (1 : Int32)) dX12_lengthsIn_10 (by decide) ?_
    refine aj_iconst (v := (0 : Int32)) dX12_lengthsIn_11 (by decide) ?_
    refine rV_VM (as := [.int ((1 : Int32)), .int ((0 : Int32))]) (c_X12_passes w S _ _ _ _) mv_X12_passes rfl zg_1795 (by decide) (Nat.le_of_ble_eq_true rfl) dX12_lengthsIn_12 (fun M1 => ?_)
    refine aj_iload_n (2) dX12_lengthsIn_15 rfl rfl ?_
    refine aj_aload_n (0) dX12_lengthsIn_16 rfl rfl ?_
    refine aj_getR (TX := TX12) zc12 (by decide) rfl (Or.inl zg_1390) dX12_lengthsIn_17 (fun r2 => ?_)
    refine aj_iconst (v := (1 : Int32)) dX12_lengthsIn_20 (by decide) ?_
    refine r_iald dX12_lengthsIn_21 (fun v3 => ?_)
    refine aj_iconst (v := (-1 : Int32)) dX12_lengthsIn_22 (by decide) ?_
    refine aj_icmp_ne (tgt := 30) dX12_lengthsIn_23 (by decide) (fun h => ?_) (fun h => ?_)
    · refine aj_aload_n (0) dX12_lengthsIn_30 rfl rfl ?_
      refine aj_getR (TX := TX12) zc12 (by decide) rfl (Or.inl zg_1389) dX12_lengthsIn_31 (fun r4 => ?_)
      refine aj_iconst (v := (1 : Int32)) dX12_lengthsIn_34 (by decide) ?_
      refine r_iald dX12_lengthsIn_35 (fun v5 => ?_)
      refine aj_iadd dX12_lengthsIn_36 ?_
      refine aj_istore_n (ls2 := [(2, .int ((x2 + v5))), (0, .ref (p0)), (1, .int (x1)), (3, .int (x3))]) dX12_lengthsIn_37 rfl (Nat.le_of_ble_eq_true rfl) rfl ?_
      refine aj_iinc (j := 3) (v := (x3 + (1 : Int32))) (ls2 := [(3, .int ((x3 + (1 : Int32)))), (2, .int ((x2 + v5))), (0, .ref (p0)), (1, .int (x1))]) dX12_lengthsIn_38 rfl rfl (Nat.le_of_ble_eq_true rfl) rfl ?_
      refine aj_goto (tgt := 4) dX12_lengthsIn_41 (by decide) ?_
      refine AJ.sub [2, 3, 1, 0] rfl ?_
      exact ih (p0) (x1) ((x2 + v5)) ((x3 + (1 : Int32))) M1
    refine aj_iconst (v := (0 : Int32)) dX12_lengthsIn_26 (by decide) ?_
    refine aj_goto (tgt := 36) dX12_lengthsIn_27 (by decide) ?_
    refine aj_iadd dX12_lengthsIn_36 ?_
    refine aj_istore_n (ls2 := [(2, .int ((x2 + (0 : Int32)))), (0, .ref (p0)), (1, .int (x1)), (3, .int (x3))]) dX12_lengthsIn_37 rfl (Nat.le_of_ble_eq_true rfl) rfl ?_
    refine aj_iinc (j := 3) (v := (x3 + (1 : Int32))) (ls2 := [(3, .int ((x3 + (1 : Int32)))), (2, .int ((x2 + (0 : Int32)))), (0, .ref (p0)), (1, .int (x1))]) dX12_lengthsIn_38 rfl rfl (Nat.le_of_ble_eq_true rfl) rfl ?_
    refine aj_goto (tgt := 4) dX12_lengthsIn_41 (by decide) ?_
    refine AJ.sub [2, 3, 1, 0] rfl ?_
    exact ih (p0) (x1) ((x2 + (0 : Int32))) ((x3 + (1 : Int32))) M1
def gX12_lengthsIn (S : List (Nat × Nat)) (p0 : Nat) (x1 : Int32) (M : zM) : Option (Int32 × zM) := gX12_lengthsIn_4 S zfu (p0) (x1) ((0 : Int32)) ((0 : Int32)) M
set_option maxHeartbeats 4000000 in
set_option maxRecDepth 100000 in
theorem c_X12_lengthsIn (w : zWd) (S : List (Nat × Nat)) (p0 : Nat) (x1 : Int32) (M : zM) : CT (zfIM S) w 8 mX12_lengthsIn [.ref (p0), .int (x1)] (S, M) (gX12_lengthsIn S p0 x1 M) := by
  refine CT.of (by decide) (Nat.le_of_ble_eq_true rfl) ?_
  show AJ _ _ _ _ 0 [(0, .ref (p0)), (1, .int (x1))] [] _ _
  unfold gX12_lengthsIn
  refine aj_iconst (v := (0 : Int32)) dX12_lengthsIn_0 (by decide) ?_
  refine aj_istore_n (ls2 := [(2, .int ((0 : Int32))), (0, .ref (p0)), (1, .int (x1))]) dX12_lengthsIn_1 rfl (Nat.le_of_ble_eq_true rfl) rfl ?_
  refine aj_iconst (v := (0 : Int32)) dX12_lengthsIn_2 (by decide) ?_
  refine aj_istore_n (ls2 := [(3, .int ((0 : Int32))), (2, .int ((0 : Int32))), (0, .ref (p0)), (1, .int (x1))]) dX12_lengthsIn_3 rfl (Nat.le_of_ble_eq_true rfl) rfl ?_
  refine AJ.sub [2, 3, 1, 0] rfl ?_
  exact t_X12_lengthsIn_4 w S zfu (p0) (x1) ((0 : Int32)) ((0 : Int32)) M
def gX12_ahead_36 (S : List (Nat × Nat)) (p0 : Nat) (x1 : Int32) (x2 : Int32) (x3 : Int32) (M : zM) : Option (Int32 × zM) := zrc S (p0) 12 66 ((gX12_copies S (p0) ((1 : Int32)) ((0 : Int32)) M).bind (fun M1 => zrc S (p0) 12 66 (zb2 (gX12_lengthsIn S (p0) (x1) M1) (fun v2 M3 => (if x2 = (0 : Int32) then zrc S (p0) 12 66 ((gX12_doneMany S (p0) ((1 : Int32)) M3).bind (fun v5 => some (v5, M3))) else (if x2 = (1 : Int32) then zgR S M3 (p0) 12 66 41 (fun r7 => zaI S M3 100 (r7) (((6 : Int32) + x3)) (fun v8 => some (v8, M3))) else (if x2 = (2 : Int32) then zgR S M3 (p0) 12 66 38 (fun r10 => zaI S M3 100 (r10) ((1 : Int32)) (fun v11 => zgR S M3 (p0) 12 66 38 (fun r12 => zaI S M3 100 (r12) ((0 : Int32)) (fun v13 => some ((v11 - v13), M3))))) else (if x2 = (3 : Int32) then zgR S M3 (p0) 12 66 37 (fun r15 => zaI S M3 100 (r15) ((1 : Int32)) (fun v16 => zgR S M3 (p0) 12 66 37 (fun r17 => zaI S M3 100 (r17) ((0 : Int32)) (fun v18 => some ((v16 - v18), M3))))) else some (v2, M3)))))))))
set_option maxHeartbeats 4000000 in
set_option maxRecDepth 100000 in
theorem t_X12_ahead_36 (w : zWd) (S : List (Nat × Nat)) (p0 : Nat) (x1 : Int32) (x2 : Int32) (x3 : Int32) (M : zM) : AJ (zfIM S) w 9 mX12_ahead 36 [(0, .ref (p0)), (1, .int (x1)), (2, .int (x2)), (3, .int (x3))] [] (S, M) (gX12_ahead_36 S p0 x1 x2 x3 M) := by
  unfold gX12_ahead_36
  refine aj_aload_n (0) dX12_ahead_36 rfl rfl ?_
  refine aj_iconst (v := (1 : Int32)) dX12_ahead_37 (by decide) ?_
  refine aj_iconst (v := (0 : Int32)) dX12_ahead_38 (by decide) ?_
  refine rV_VM (as := [.int ((1 : Int32)), .int ((0 : Int32))]) (c_X12_copies w S _ _ _ _) mv_X12_copies rfl zg_1779 (by decide) (Nat.le_of_ble_eq_true rfl) dX12_ahead_39 (fun M1 => ?_)
  refine aj_aload_n (0) dX12_ahead_42 rfl rfl ?_
  refine aj_iload_n (1) dX12_ahead_43 rfl rfl ?_
  refine rV_IM (as := [.int (x1)]) (c_X12_lengthsIn w S _ _ _) mv_X12_lengthsIn rfl zg_1830 (by decide) (Nat.le_of_ble_eq_true rfl) dX12_ahead_44 (fun v2 M3 => ?_)
  refine aj_istore (ls2 := [(4, .int (v2)), (0, .ref (p0)), (1, .int (x1)), (2, .int (x2)), (3, .int (x3))]) dX12_ahead_47 (Nat.le_of_ble_eq_true rfl) rfl ?_
  refine aj_iload_n (3) dX12_ahead_49 rfl rfl ?_
  refine aj_ite (fun h => ?_) (fun h4 => ?_)
  · have h9 : x2 = (0 : Int32) := h
    refine aj_tsw (tgt := 80) (off := 30) dX12_ahead_50 (by rw [h9]; decide) (by rw [h9]; decide) (by rw [h9]; decide +kernel) (by decide) ?_
    refine aj_aload_n (1) dX12_ahead_80 rfl rfl ?_
    refine aj_iconst (v := (1 : Int32)) dX12_ahead_81 (by decide) ?_
    refine rV_I (as := [.int ((1 : Int32))]) (c_X12_doneMany w S _ _ _) mv_X12_doneMany rfl zg_1735 (by decide) (Nat.le_of_ble_eq_true rfl) dX12_ahead_82 (fun v5 => ?_)
    exact aj_iret dX12_ahead_85 rfl rfl rfl
  refine aj_ite (fun h => ?_) (fun h6 => ?_)
  · have h9 : x2 = (1 : Int32) := h
    refine aj_tsw (tgt := 86) (off := 36) dX12_ahead_50 (by rw [h9]; decide) (by rw [h9]; decide) (by rw [h9]; decide +kernel) (by decide) ?_
    refine aj_aload_n (1) dX12_ahead_86 rfl rfl ?_
    refine aj_getR (TX := TX12) zc12 (by decide) rfl (Or.inl zg_1391) dX12_ahead_87 (fun r7 => ?_)
    refine aj_bipush (v := (6 : Int32)) dX12_ahead_90 (by decide) ?_
    refine aj_iload_n (4) dX12_ahead_92 rfl rfl ?_
    refine aj_iadd dX12_ahead_93 ?_
    refine r_iald dX12_ahead_94 (fun v8 => ?_)
    exact aj_iret dX12_ahead_95 rfl rfl rfl
  refine aj_ite (fun h => ?_) (fun h9 => ?_)
  · have h9 : x2 = (2 : Int32) := h
    refine aj_tsw (tgt := 96) (off := 46) dX12_ahead_50 (by rw [h9]; decide) (by rw [h9]; decide) (by rw [h9]; decide +kernel) (by decide) ?_
    refine aj_aload_n (1) dX12_ahead_96 rfl rfl ?_
    refine aj_getR (TX := TX12) zc12 (by decide) rfl (Or.inl zg_1388) dX12_ahead_97 (fun r10 => ?_)
    refine aj_iconst (v := (1 : Int32)) dX12_ahead_100 (by decide) ?_
    refine r_iald dX12_ahead_101 (fun v11 => ?_)
    refine aj_aload_n (1) dX12_ahead_102 rfl rfl ?_
    refine aj_getR (TX := TX12) zc12 (by decide) rfl (Or.inl zg_1388) dX12_ahead_103 (fun r12 => ?_)
    refine aj_iconst (v := (0 : Int32)) dX12_ahead_106 (by decide) ?_
    refine r_iald dX12_ahead_107 (fun v13 => ?_)
    refine aj_isub dX12_ahead_108 ?_
    exact aj_iret dX12_ahead_109 rfl rfl rfl
  refine aj_ite (fun h => ?_) (fun h14 => ?_)
  · have h9 : x2 = (3 : Int32) := h
    refine aj_tsw (tgt := 110) (off := 60) dX12_ahead_50 (by rw [h9]; decide) (by rw [h9]; decide) (by rw [h9]; decide +kernel) (by decide) ?_
    refine aj_aload_n (1) dX12_ahead_110 rfl rfl ?_
    refine aj_getR (TX := TX12) zc12 (by decide) rfl (Or.inl zg_1387) dX12_ahead_111 (fun r15 => ?_)
    refine aj_iconst (v := (1 : Int32)) dX12_ahead_114 (by decide) ?_
    refine r_iald dX12_ahead_115 (fun v16 => ?_)
    refine aj_aload_n (1) dX12_ahead_116 rfl rfl ?_
    refine aj_getR (TX := TX12) zc12 (by decide) rfl (Or.inl zg_1387) dX12_ahead_117 (fun r17 => ?_)
    refine aj_iconst (v := (0 : Int32)) dX12_ahead_120 (by decide) ?_
    refine r_iald dX12_ahead_121 (fun v18 => ?_)
    refine aj_isub dX12_ahead_122 ?_
    exact aj_iret dX12_ahead_123 rfl rfl rfl
  refine aj_tswO (tgt := 124) dX12_ahead_50 (by have a0 := lv_neT (k := (0 : Int32)) h4 (a := 0) (by decide); have a1 := lv_neT (k := (1 : Int32)) h6 (a := 1) (by decide); have a2 := lv_neT (k := (2 : Int32)) h9 (a := 2) (by decide); have a3 := lv_neT (k := (3 : Int32)) h14 (a := 3) (by decide); omega) (by decide) ?_
  refine aj_iload (0) dX12_ahead_124 rfl ?_
  exact aj_iret dX12_ahead_126 rfl rfl rfl
def gX12_ahead (S : List (Nat × Nat)) (p0 : Nat) (x1 : Int32) (x2 : Int32) (x3 : Int32) (M : zM) : Option (Int32 × zM) := zpI S M (p0) 12 66 0 ((0 : Int32)) (fun M1 => (gX12_isAhead S (x1) M1).bind (fun v2 => (if v2 = 0 then some ((-1 : Int32), M1) else (if x2 < 0 then some ((-1 : Int32), M1) else (if (4 : Int32) < x2 then some ((-1 : Int32), M1) else (if x2 = (1 : Int32) then zrc S (p0) 12 66 ((gX12_isTrade S (p0) (x3) M1).bind (fun v3 => (if v3 = 0 then some ((-1 : Int32), M1) else gX12_ahead_36 S (p0) (x1) (x2) (x3) M1))) else gX12_ahead_36 S (p0) (x1) (x2) (x3) M1))))))
set_option maxHeartbeats 4000000 in
set_option maxRecDepth 100000 in
theorem c_X12_ahead (w : zWd) (S : List (Nat × Nat)) (p0 : Nat) (x1 : Int32) (x2 : Int32) (x3 : Int32) (M : zM) : CT (zfIM S) w 9 mX12_ahead [.ref (p0), .int (x1), .int (x2), .int (x3)] (S, M) (gX12_ahead S p0 x1 x2 x3 M) := by
  refine CT.of (by decide) (Nat.le_of_ble_eq_true rfl) ?_
  show AJ _ _ _ _ 0 [(0, .ref (p0)), (1, .int (x1)), (2, .int (x2)), (3, .int (x3))] [] _ _
  unfold gX12_ahead
  refine aj_aload_n (0) dX12_ahead_0 rfl rfl ?_
  refine aj_iconst (v := (0 : Int32)) dX12_ahead_1 (by decide) ?_
  refine r_putI (TX := TX12) zc12 (by decide) rfl rfl rfl rfl (Or.inl zg_1350) dX12_ahead_2 (fun M1 => ?_)
  refine aj_iload_n (1) dX12_ahead_5 rfl rfl ?_
  refine rS_I (as := [.int (x1)]) (c_X12_isAhead w S _ _) ms_X12_isAhead rfl zg_1827 (by decide) (Nat.le_of_ble_eq_true rfl) dX12_ahead_6 (fun v2 => ?_)
  refine aj_if_eq (tgt := 34) dX12_ahead_9 (by decide) (fun h => ?_) (fun h => ?_)
  · refine aj_iconst (v := (-1 : Int32)) dX12_ahead_34 (by decide) ?_
    exact aj_iret dX12_ahead_35 rfl rfl rfl
  refine aj_iload_n (2) dX12_ahead_12 rfl rfl ?_
  refine aj_if_lt (tgt := 34) dX12_ahead_13 (by decide) (fun h => ?_) (fun h => ?_)
  · refine aj_iconst (v := (-1 : Int32)) dX12_ahead_34 (by decide) ?_
    exact aj_iret dX12_ahead_35 rfl rfl rfl
  refine aj_iload_n (2) dX12_ahead_16 rfl rfl ?_
  refine aj_iconst (v := (4 : Int32)) dX12_ahead_17 (by decide) ?_
  refine aj_icmp_gt (tgt := 34) dX12_ahead_18 (by decide) (fun h => ?_) (fun h => ?_)
  · refine aj_iconst (v := (-1 : Int32)) dX12_ahead_34 (by decide) ?_
    exact aj_iret dX12_ahead_35 rfl rfl rfl
  refine aj_iload_n (2) dX12_ahead_21 rfl rfl ?_
  refine aj_iconst (v := (1 : Int32)) dX12_ahead_22 (by decide) ?_
  refine aj_icmp_ne (tgt := 36) dX12_ahead_23 (by decide) (fun h => ?_) (fun h => ?_)
  · refine AJ.sub [0, 1, 2, 3] rfl ?_
    exact t_X12_ahead_36 w S (p0) (x1) (x2) (x3) M1
  refine aj_aload_n (0) dX12_ahead_26 rfl rfl ?_
  refine aj_iload_n (3) dX12_ahead_27 rfl rfl ?_
  refine rV_I (as := [.int (x3)]) (c_X12_isTrade w S _ _ _) mv_X12_isTrade rfl zg_1694 (by decide) (Nat.le_of_ble_eq_true rfl) dX12_ahead_28 (fun v3 => ?_)
  refine aj_if_ne (tgt := 36) dX12_ahead_31 (by decide) (fun h => ?_) (fun h => ?_)
  · refine AJ.sub [0, 1, 2, 3] rfl ?_
    exact t_X12_ahead_36 w S (p0) (x1) (x2) (x3) M1
  refine aj_iconst (v := (-1 : Int32)) dX12_ahead_34 (by decide) ?_
  exact aj_iret dX12_ahead_35 rfl rfl rfl
def gX12_opener (S : List (Nat × Nat)) (p0 : Nat) (x1 : Int32) (M : zM) : Option (Int32 × zM) := zpI S M (p0) 12 66 0 ((0 : Int32)) (fun M1 => (gX12_isAhead S (x1) M1).bind (fun v2 => (if v2 = 0 then some ((-1 : Int32), M1) else zrc S (p0) 12 66 ((gX12_copies S (p0) ((1 : Int32)) ((0 : Int32)) M1).bind (fun M3 => zrc S (p0) 12 66 ((gX12_goesOn S (p0) ((x1 + (1 : Int32))) M3).bind (fun M4 => zgR S M4 (p0) 12 66 40 (fun r5 => zaI S M4 100 (r5) ((1 : Int32)) (fun v6 => (if v6 = (-1 : Int32) then some ((-2 : Int32), M4) else zgR S M4 (p0) 12 66 40 (fun r7 => zaI S M4 100 (r7) ((1 : Int32)) (fun v8 => some (v8, M4)))))))))))))
set_option maxHeartbeats 4000000 in
set_option maxRecDepth 100000 in
theorem c_X12_opener (w : zWd) (S : List (Nat × Nat)) (p0 : Nat) (x1 : Int32) (M : zM) : CT (zfIM S) w 9 mX12_opener [.ref (p0), .int (x1)] (S, M) (gX12_opener S p0 x1 M) := by
  refine CT.of (by decide) (Nat.le_of_ble_eq_true rfl) ?_
  show AJ _ _ _ _ 0 [(0, .ref (p0)), (1, .int (x1))] [] _ _
  unfold gX12_opener
  refine aj_aload_n (0) dX12_opener_0 rfl rfl ?_
  refine aj_iconst (v := (0 : Int32)) dX12_opener_1 (by decide) ?_
  refine r_putI (TX := TX12) zc12 (by decide) rfl rfl rfl rfl (Or.inl zg_1350) dX12_opener_2 (fun M1 => ?_)
  refine aj_iload_n (1) dX12_opener_5 rfl rfl ?_
  refine rS_I (as := [.int (x1)]) (c_X12_isAhead w S _ _) ms_X12_isAhead rfl zg_1827 (by decide) (Nat.le_of_ble_eq_true rfl) dX12_opener_6 (fun v2 => ?_)
  refine aj_if_ne (tgt := 14) dX12_opener_9 (by decide) (fun h => ?_) (fun h => ?_)
  · refine aj_aload_n (0) dX12_opener_14 rfl rfl ?_
    refine aj_iconst (v := (1 : Int32)) dX12_opener_15 (by decide) ?_
    refine aj_iconst (v := (0 : Int32)) dX12_opener_16 (by decide) ?_
    refine rV_VM (as := [.int ((1 : Int32)), .int ((0 : Int32))]) (c_X12_copies w S _ _ _ _) mv_X12_copies rfl zg_1779 (by decide) (Nat.le_of_ble_eq_true rfl) dX12_opener_17 (fun M3 => ?_)
    refine aj_aload_n (0) dX12_opener_20 rfl rfl ?_
    refine aj_iload_n (1) dX12_opener_21 rfl rfl ?_
    refine aj_iconst (v := (1 : Int32)) dX12_opener_22 (by decide) ?_
    refine aj_iadd dX12_opener_23 ?_
    refine rV_VM (as := [.int ((x1 + (1 : Int32)))]) (c_X12_goesOn w S _ _ _) mv_X12_goesOn rfl zg_1838 (by decide) (Nat.le_of_ble_eq_true rfl) dX12_opener_24 (fun M4 => ?_)
    refine aj_aload_n (0) dX12_opener_27 rfl rfl ?_
    refine aj_getR (TX := TX12) zc12 (by decide) rfl (Or.inl zg_1390) dX12_opener_28 (fun r5 => ?_)
    refine aj_iconst (v := (1 : Int32)) dX12_opener_31 (by decide) ?_
    refine r_iald dX12_opener_32 (fun v6 => ?_)
    refine aj_iconst (v := (-1 : Int32)) dX12_opener_33 (by decide) ?_
    refine aj_icmp_ne (tgt := 42) dX12_opener_34 (by decide) (fun h => ?_) (fun h => ?_)
    · refine aj_aload_n (0) dX12_opener_42 rfl rfl ?_
      refine aj_getR (TX := TX12) zc12 (by decide) rfl (Or.inl zg_1390) dX12_opener_43 (fun r7 => ?_)
      refine aj_iconst (v := (1 : Int32)) dX12_opener_46 (by decide) ?_
      refine r_iald dX12_opener_47 (fun v8 => ?_)
      exact aj_iret dX12_opener_48 rfl rfl rfl
    refine aj_bipush (v := (-2 : Int32)) dX12_opener_37 (by decide) ?_
    refine aj_goto (tgt := 48) dX12_opener_39 (by decide) ?_
    exact aj_iret dX12_opener_48 rfl rfl rfl
  refine aj_iconst (v := (-1 : Int32)) dX12_opener_12 (by decide) ?_
  exact aj_iret dX12_opener_13 rfl rfl rfl
def gX12_longAt (S : List (Nat × Nat)) (p0 : Nat) (x1 : Int32) (M : zM) : Option (Int32 × zM) := zpI S M (p0) 12 66 0 ((0 : Int32)) (fun M1 => (gX12_isAhead S (x1) M1).bind (fun v2 => (if v2 = 0 then some ((-1 : Int32), M1) else zrc S (p0) 12 66 ((gX12_copies S (p0) ((1 : Int32)) ((0 : Int32)) M1).bind (fun M3 => zrc S (p0) 12 66 ((gX12_goesOn S (p0) ((x1 + (1 : Int32))) M3).bind (fun M4 => zgR S M4 (p0) 12 66 40 (fun r5 => zaI S M4 100 (r5) ((1 : Int32)) (fun v6 => (if v6 = (-1 : Int32) then some ((-2 : Int32), M4) else zgR S M4 (p0) 12 66 39 (fun r7 => zaI S M4 100 (r7) ((1 : Int32)) (fun v8 => some (v8, M4)))))))))))))
set_option maxHeartbeats 4000000 in
set_option maxRecDepth 100000 in
theorem c_X12_longAt (w : zWd) (S : List (Nat × Nat)) (p0 : Nat) (x1 : Int32) (M : zM) : CT (zfIM S) w 9 mX12_longAt [.ref (p0), .int (x1)] (S, M) (gX12_longAt S p0 x1 M) := by
  refine CT.of (by decide) (Nat.le_of_ble_eq_true rfl) ?_
  show AJ _ _ _ _ 0 [(0, .ref (p0)), (1, .int (x1))] [] _ _
  unfold gX12_longAt
  refine aj_aload_n (0) dX12_longAt_0 rfl rfl ?_
  refine aj_iconst (v := (0 : Int32)) dX12_longAt_1 (by decide) ?_
  refine r_putI (TX := TX12) zc12 (by decide) rfl rfl rfl rfl (Or.inl zg_1350) dX12_longAt_2 (fun M1 => ?_)
  refine aj_iload_n (1) dX12_longAt_5 rfl rfl ?_
  refine rS_I (as := [.int (x1)]) (c_X12_isAhead w S _ _) ms_X12_isAhead rfl zg_1827 (by decide) (Nat.le_of_ble_eq_true rfl) dX12_longAt_6 (fun v2 => ?_)
  refine aj_if_ne (tgt := 14) dX12_longAt_9 (by decide) (fun h => ?_) (fun h => ?_)
  · refine aj_aload_n (0) dX12_longAt_14 rfl rfl ?_
    refine aj_iconst (v := (1 : Int32)) dX12_longAt_15 (by decide) ?_
    refine aj_iconst (v := (0 : Int32)) dX12_longAt_16 (by decide) ?_
    refine rV_VM (as := [.int ((1 : Int32)), .int ((0 : Int32))]) (c_X12_copies w S _ _ _ _) mv_X12_copies rfl zg_1779 (by decide) (Nat.le_of_ble_eq_true rfl) dX12_longAt_17 (fun M3 => ?_)
    refine aj_aload_n (0) dX12_longAt_20 rfl rfl ?_
    refine aj_iload_n (1) dX12_longAt_21 rfl rfl ?_
    refine aj_iconst (v := (1 : Int32)) dX12_longAt_22 (by decide) ?_
    refine aj_iadd dX12_longAt_23 ?_
    refine rV_VM (as := [.int ((x1 + (1 : Int32)))]) (c_X12_goesOn w S _ _ _) mv_X12_goesOn rfl zg_1838 (by decide) (Nat.le_of_ble_eq_true rfl) dX12_longAt_24 (fun M4 => ?_)
    refine aj_aload_n (0) dX12_longAt_27 rfl rfl ?_
    refine aj_getR (TX := TX12) zc12 (by decide) rfl (Or.inl zg_1390) dX12_longAt_28 (fun r5 => ?_)
    refine aj_iconst (v := (1 : Int32)) dX12_longAt_31 (by decide) ?_
    refine r_iald dX12_longAt_32 (fun v6 => ?_)
    refine aj_iconst (v := (-1 : Int32)) dX12_longAt_33 (by decide) ?_
    refine aj_icmp_ne (tgt := 42) dX12_longAt_34 (by decide) (fun h => ?_) (fun h => ?_)
    · refine aj_aload_n (0) dX12_longAt_42 rfl rfl ?_
      refine aj_getR (TX := TX12) zc12 (by decide) rfl (Or.inl zg_1389) dX12_longAt_43 (fun r7 => ?_)
      refine aj_iconst (v := (1 : Int32)) dX12_longAt_46 (by decide) ?_
      refine r_iald dX12_longAt_47 (fun v8 => ?_)
      exact aj_iret dX12_longAt_48 rfl rfl rfl
    refine aj_bipush (v := (-2 : Int32)) dX12_longAt_37 (by decide) ?_
    refine aj_goto (tgt := 48) dX12_longAt_39 (by decide) ?_
    exact aj_iret dX12_longAt_48 rfl rfl rfl
  refine aj_iconst (v := (-1 : Int32)) dX12_longAt_12 (by decide) ?_
  exact aj_iret dX12_longAt_13 rfl rfl rfl
def gX12_doneWhen_23 (S : List (Nat × Nat)) : Nat → Nat → Int32 → Int32 → zM → Option (Int32 × zM)
  | 0 => fun _ _ _ _ => none
  | n + 1 => fun p0 x1 x2 M => (if (199 : Int32) < x2 then some ((-2 : Int32), M) else zrc S (p0) 12 66 ((gX12_isDone S (p0) ((1 : Int32)) (x1) M).bind (fun v1 => (if v1 = 0 then zrc S (p0) 12 66 ((gX12_passes S (p0) ((1 : Int32)) ((0 : Int32)) M).bind (fun M2 => (gX12_doneWhen_23 S   n) (p0) (x1) ((x2 + (1 : Int32))) M2)) else some (x2, M)))))
set_option maxHeartbeats 4000000 in
set_option maxRecDepth 100000 in
theorem t_X12_doneWhen_23 (w : zWd) (S : List (Nat × Nat)) (fu : Nat) : ∀ (p0 : Nat) (x1 : Int32) (x2 : Int32) (M : zM), AJ (zfIM S) w 8 mX12_doneWhen 23 [(0, .ref (p0)), (1, .int (x1)), (2, .int (x2))] [] (S, M) (gX12_doneWhen_23 S fu p0 x1 x2 M) := by
  induction fu with
  | zero => intro p0 x1 x2 M; exact AJ.none
  | succ n ih =>
    intro p0 x1 x2 M
    unfold gX12_doneWhen_23
    refine aj_iload_n (2) dX12_doneWhen_23 rfl rfl ?_
    refine aj_sipush (v := (199 : Int32)) dX12_doneWhen_24 (by decide) ?_
    refine aj_icmp_gt (tgt := 53) dX12_doneWhen_27 (by decide) (fun h => ?_) (fun h => ?_)
    · refine aj_bipush (v := (-2 : Int32)) dX12_doneWhen_53 (by decide) ?_
      exact aj_iret dX12_doneWhen_55 rfl rfl rfl
    refine aj_aload_n (0) dX12_doneWhen_30 rfl rfl ?_
    refine aj_iconst (v := (1 : Int32)) dX12_doneWhen_31 (by decide) ?_
    refine aj_iload_n (1) dX12_doneWhen_32 rfl rfl ?_
    refine rV_I (as := [.int ((1 : Int32)), .int (x1)]) (c_X12_isDone w S _ _ _ _) mv_X12_isDone rfl zg_1739 (by decide) (Nat.le_of_ble_eq_true rfl) dX12_doneWhen_33 (fun v1 => ?_)
    refine aj_if_eq (tgt := 41) dX12_doneWhen_36 (by decide) (fun h => ?_) (fun h => ?_)
    · refine aj_aload_n (0) dX12_doneWhen_41 rfl rfl ?_
      refine aj_iconst (v := (1 : Int32)) dX12_doneWhen_42 (by decide) ?_
      refine aj_iconst (v := (0 : Int32)) dX12_doneWhen_43 (by decide) ?_
      refine rV_VM (as := [.int ((1 : Int32)), .int ((0 : Int32))]) (c_X12_passes w S _ _ _ _) mv_X12_passes rfl zg_1795 (by decide) (Nat.le_of_ble_eq_true rfl) dX12_doneWhen_44 (fun M2 => ?_)
      refine aj_iinc (j := 2) (v := (x2 + (1 : Int32))) (ls2 := [(2, .int ((x2 + (1 : Int32)))), (0, .ref (p0)), (1, .int (x1))]) dX12_doneWhen_47 rfl rfl (Nat.le_of_ble_eq_true rfl) rfl ?_
      refine aj_goto (tgt := 23) dX12_doneWhen_50 (by decide) ?_
      refine AJ.sub [1, 2, 0] rfl ?_
      exact ih (p0) (x1) ((x2 + (1 : Int32))) M2
    refine aj_iload_n (2) dX12_doneWhen_39 rfl rfl ?_
    exact aj_iret dX12_doneWhen_40 rfl rfl rfl
def gX12_doneWhen (S : List (Nat × Nat)) (p0 : Nat) (x1 : Int32) (M : zM) : Option (Int32 × zM) := zpI S M (p0) 12 66 0 ((0 : Int32)) (fun M1 => zrc S (p0) 12 66 ((gX12_isWork S (p0) (x1) M1).bind (fun v2 => (if v2 = 0 then some ((-1 : Int32), M1) else zrc S (p0) 12 66 ((gX12_copies S (p0) ((1 : Int32)) ((0 : Int32)) M1).bind (fun M3 => gX12_doneWhen_23 S zfu (p0) (x1) ((0 : Int32)) M3))))))
set_option maxHeartbeats 4000000 in
set_option maxRecDepth 100000 in
theorem c_X12_doneWhen (w : zWd) (S : List (Nat × Nat)) (p0 : Nat) (x1 : Int32) (M : zM) : CT (zfIM S) w 8 mX12_doneWhen [.ref (p0), .int (x1)] (S, M) (gX12_doneWhen S p0 x1 M) := by
  refine CT.of (by decide) (Nat.le_of_ble_eq_true rfl) ?_
  show AJ _ _ _ _ 0 [(0, .ref (p0)), (1, .int (x1))] [] _ _
  unfold gX12_doneWhen
  refine aj_aload_n (0) dX12_doneWhen_0 rfl rfl ?_
  refine aj_iconst (v := (0 : Int32)) dX12_doneWhen_1 (by decide) ?_
  refine r_putI (TX := TX12) zc12 (by decide) rfl rfl rfl rfl (Or.inl zg_1350) dX12_doneWhen_2 (fun M1 => ?_)
  refine aj_aload_n (0) dX12_doneWhen_5 rfl rfl ?_
  refine aj_iload_n (1) dX12_doneWhen_6 rfl rfl ?_
  refine rV_I (as := [.int (x1)]) (c_X12_isWork w S _ _ _) mv_X12_isWork rfl zg_1714 (by decide) (Nat.le_of_ble_eq_true rfl) dX12_doneWhen_7 (fun v2 => ?_)
  refine aj_if_ne (tgt := 15) dX12_doneWhen_10 (by decide) (fun h => ?_) (fun h => ?_)
  · refine aj_aload_n (0) dX12_doneWhen_15 rfl rfl ?_
    refine aj_iconst (v := (1 : Int32)) dX12_doneWhen_16 (by decide) ?_
    refine aj_iconst (v := (0 : Int32)) dX12_doneWhen_17 (by decide) ?_
    refine rV_VM (as := [.int ((1 : Int32)), .int ((0 : Int32))]) (c_X12_copies w S _ _ _ _) mv_X12_copies rfl zg_1779 (by decide) (Nat.le_of_ble_eq_true rfl) dX12_doneWhen_18 (fun M3 => ?_)
    refine aj_iconst (v := (0 : Int32)) dX12_doneWhen_21 (by decide) ?_
    refine aj_istore_n (ls2 := [(2, .int ((0 : Int32))), (0, .ref (p0)), (1, .int (x1))]) dX12_doneWhen_22 rfl (Nat.le_of_ble_eq_true rfl) rfl ?_
    refine AJ.sub [1, 2, 0] rfl ?_
    exact t_X12_doneWhen_23 w S zfu (p0) (x1) ((0 : Int32)) M3
  refine aj_iconst (v := (-1 : Int32)) dX12_doneWhen_13 (by decide) ?_
  exact aj_iret dX12_doneWhen_14 rfl rfl rfl
def gX12_soon_23 (S : List (Nat × Nat)) : Nat → Nat → Int32 → Int32 → zM → Option (Int32 × zM)
  | 0 => fun _ _ _ _ => none
  | n + 1 => fun p0 x1 x2 M => (if (199 : Int32) < x2 then some ((-2 : Int32), M) else zrc S (p0) 12 66 ((gX12_passes S (p0) ((1 : Int32)) ((0 : Int32)) M).bind (fun M1 => zgR S M1 (p0) 12 66 40 (fun r2 => zaI S M1 100 (r2) ((1 : Int32)) (fun v3 => (if v3 = x1 then some (x2, M1) else (gX12_soon_23 S   n) (p0) (x1) ((x2 + (1 : Int32))) M1))))))
set_option maxHeartbeats 4000000 in
set_option maxRecDepth 100000 in
theorem t_X12_soon_23 (w : zWd) (S : List (Nat × Nat)) (fu : Nat) : ∀ (p0 : Nat) (x1 : Int32) (x2 : Int32) (M : zM), AJ (zfIM S) w 8 mX12_soon 23 [(0, .ref (p0)), (1, .int (x1)), (2, .int (x2))] [] (S, M) (gX12_soon_23 S fu p0 x1 x2 M) := by
  induction fu with
  | zero => intro p0 x1 x2 M; exact AJ.none
  | succ n ih =>
    intro p0 x1 x2 M
    unfold gX12_soon_23
    refine aj_iload_n (2) dX12_soon_23 rfl rfl ?_
    refine aj_sipush (v := (199 : Int32)) dX12_soon_24 (by decide) ?_
    refine aj_icmp_gt (tgt := 54) dX12_soon_27 (by decide) (fun h => ?_) (fun h => ?_)
    · refine aj_bipush (v := (-2 : Int32)) dX12_soon_54 (by decide) ?_
      exact aj_iret dX12_soon_56 rfl rfl rfl
    refine aj_aload_n (0) dX12_soon_30 rfl rfl ?_
    refine aj_iconst (v := (1 : Int32)) dX12_soon_31 (by decide) ?_
    refine aj_iconst (v := (0 : Int32)) dX12_soon_32 (by decide) ?_
    refine rV_VM (as := [.int ((1 : Int32)), .int ((0 : Int32))]) (c_X12_passes w S _ _ _ _) mv_X12_passes rfl zg_1795 (by decide) (Nat.le_of_ble_eq_true rfl) dX12_soon_33 (fun M1 => ?_)
    refine aj_aload_n (0) dX12_soon_36 rfl rfl ?_
    refine aj_getR (TX := TX12) zc12 (by decide) rfl (Or.inl zg_1390) dX12_soon_37 (fun r2 => ?_)
    refine aj_iconst (v := (1 : Int32)) dX12_soon_40 (by decide) ?_
    refine r_iald dX12_soon_41 (fun v3 => ?_)
    refine aj_iload_n (1) dX12_soon_42 rfl rfl ?_
    refine aj_icmp_ne (tgt := 48) dX12_soon_43 (by decide) (fun h => ?_) (fun h => ?_)
    · refine aj_iinc (j := 2) (v := (x2 + (1 : Int32))) (ls2 := [(2, .int ((x2 + (1 : Int32)))), (0, .ref (p0)), (1, .int (x1))]) dX12_soon_48 rfl rfl (Nat.le_of_ble_eq_true rfl) rfl ?_
      refine aj_goto (tgt := 23) dX12_soon_51 (by decide) ?_
      refine AJ.sub [1, 2, 0] rfl ?_
      exact ih (p0) (x1) ((x2 + (1 : Int32))) M1
    refine aj_iload_n (2) dX12_soon_46 rfl rfl ?_
    exact aj_iret dX12_soon_47 rfl rfl rfl
def gX12_soon (S : List (Nat × Nat)) (p0 : Nat) (x1 : Int32) (M : zM) : Option (Int32 × zM) := zpI S M (p0) 12 66 0 ((0 : Int32)) (fun M1 => zrc S (p0) 12 66 ((gX12_isTrade S (p0) (x1) M1).bind (fun v2 => (if v2 = 0 then some ((-1 : Int32), M1) else zrc S (p0) 12 66 ((gX12_copies S (p0) ((1 : Int32)) ((0 : Int32)) M1).bind (fun M3 => gX12_soon_23 S zfu (p0) (x1) ((1 : Int32)) M3))))))
set_option maxHeartbeats 4000000 in
set_option maxRecDepth 100000 in
theorem c_X12_soon (w : zWd) (S : List (Nat × Nat)) (p0 : Nat) (x1 : Int32) (M : zM) : CT (zfIM S) w 8 mX12_soon [.ref (p0), .int (x1)] (S, M) (gX12_soon S p0 x1 M) := by
  refine CT.of (by decide) (Nat.le_of_ble_eq_true rfl) ?_
  show AJ _ _ _ _ 0 [(0, .ref (p0)), (1, .int (x1))] [] _ _
  unfold gX12_soon
  refine aj_aload_n (0) dX12_soon_0 rfl rfl ?_
  refine aj_iconst (v := (0 : Int32)) dX12_soon_1 (by decide) ?_
  refine r_putI (TX := TX12) zc12 (by decide) rfl rfl rfl rfl (Or.inl zg_1350) dX12_soon_2 (fun M1 => ?_)
  refine aj_aload_n (0) dX12_soon_5 rfl rfl ?_
  refine aj_iload_n (1) dX12_soon_6 rfl rfl ?_
  refine rV_I (as := [.int (x1)]) (c_X12_isTrade w S _ _ _) mv_X12_isTrade rfl zg_1694 (by decide) (Nat.le_of_ble_eq_true rfl) dX12_soon_7 (fun v2 => ?_)
  refine aj_if_ne (tgt := 15) dX12_soon_10 (by decide) (fun h => ?_) (fun h => ?_)
  · refine aj_aload_n (0) dX12_soon_15 rfl rfl ?_
    refine aj_iconst (v := (1 : Int32)) dX12_soon_16 (by decide) ?_
    refine aj_iconst (v := (0 : Int32)) dX12_soon_17 (by decide) ?_
    refine rV_VM (as := [.int ((1 : Int32)), .int ((0 : Int32))]) (c_X12_copies w S _ _ _ _) mv_X12_copies rfl zg_1779 (by decide) (Nat.le_of_ble_eq_true rfl) dX12_soon_18 (fun M3 => ?_)
    refine aj_iconst (v := (1 : Int32)) dX12_soon_21 (by decide) ?_
    refine aj_istore_n (ls2 := [(2, .int ((1 : Int32))), (0, .ref (p0)), (1, .int (x1))]) dX12_soon_22 rfl (Nat.le_of_ble_eq_true rfl) rfl ?_
    refine AJ.sub [1, 2, 0] rfl ?_
    exact t_X12_soon_23 w S zfu (p0) (x1) ((1 : Int32)) M3
  refine aj_iconst (v := (-1 : Int32)) dX12_soon_13 (by decide) ?_
  exact aj_iret dX12_soon_14 rfl rfl rfl
def gX12_out_28 (S : List (Nat × Nat)) : Nat → Nat → Int32 → Int32 → Int32 → Int32 → zM → Option (Int32 × zM)
  | 0 => fun _ _ _ _ _ _ => none
  | n + 1 => fun p0 x1 x2 x3 x4 M => (if (60 : Int32) ≤ x4 then some (x3, M) else zrc S (p0) 12 66 ((gX12_passes S (p0) ((1 : Int32)) ((0 : Int32)) M).bind (fun M1 => zgR S M1 (p0) 12 66 40 (fun r2 => zaI S M1 100 (r2) ((1 : Int32)) (fun v3 => (if v3 = x1 then (gX12_out_28 S   n) (p0) (x1) ((0 : Int32)) ((if x3 < (0 : Int32) then (0 : Int32) else x3)) ((x4 + (1 : Int32))) M1 else (gX12_out_28 S   n) (p0) (x1) ((x2 + (1 : Int32))) ((if x3 < (x2 + (1 : Int32)) then (x2 + (1 : Int32)) else x3)) ((x4 + (1 : Int32))) M1))))))
set_option maxHeartbeats 4000000 in
set_option maxRecDepth 100000 in
theorem t_X12_out_28 (w : zWd) (S : List (Nat × Nat)) (fu : Nat) : ∀ (p0 : Nat) (x1 : Int32) (x2 : Int32) (x3 : Int32) (x4 : Int32) (M : zM), AJ (zfIM S) w 8 mX12_out 28 [(0, .ref (p0)), (1, .int (x1)), (2, .int (x2)), (3, .int (x3)), (4, .int (x4))] [] (S, M) (gX12_out_28 S fu p0 x1 x2 x3 x4 M) := by
  induction fu with
  | zero => intro p0 x1 x2 x3 x4 M; exact AJ.none
  | succ n ih =>
    intro p0 x1 x2 x3 x4 M
    unfold gX12_out_28
    refine aj_iload (4) dX12_out_28 rfl ?_
    refine aj_bipush (v := (60 : Int32)) dX12_out_30 (by decide) ?_
    refine aj_icmp_ge (tgt := 71) dX12_out_32 (by decide) (fun h => ?_) (fun h => ?_)
    · refine aj_iload_n (3) dX12_out_71 rfl rfl ?_
      exact aj_iret dX12_out_72 rfl rfl rfl
    refine aj_aload_n (0) dX12_out_35 rfl rfl ?_
    refine aj_iconst (v := (1 : Int32)) dX12_out_36 (by decide) ?_
    refine aj_iconst (v := (0 : Int32)) dX12_out_37 (by decide) ?_
    refine rV_VM (as := [.int ((1 : Int32)), .int ((0 : Int32))]) (c_X12_passes w S _ _ _ _) mv_X12_passes rfl zg_1795 (by decide) (Nat.le_of_ble_eq_true rfl) dX12_out_38 (fun M1 => ?_)
    refine aj_aload_n (0) dX12_out_41 rfl rfl ?_
    refine aj_getR (TX := TX12) zc12 (by decide) rfl (Or.inl zg_1390) dX12_out_42 (fun r2 => ?_)
    refine aj_iconst (v := (1 : Int32)) dX12_out_45 (by decide) ?_
    refine r_iald dX12_out_46 (fun v3 => ?_)
    refine aj_iload_n (1) dX12_out_47 rfl rfl ?_
    refine aj_icmp_ne (tgt := 55) dX12_out_48 (by decide) (fun h => ?_) (fun h => ?_)
    · refine aj_iload_n (2) dX12_out_55 rfl rfl ?_
      refine aj_iconst (v := (1 : Int32)) dX12_out_56 (by decide) ?_
      refine aj_iadd dX12_out_57 ?_
      refine aj_istore_n (ls2 := [(2, .int ((x2 + (1 : Int32)))), (0, .ref (p0)), (1, .int (x1)), (3, .int (x3)), (4, .int (x4))]) dX12_out_58 rfl (Nat.le_of_ble_eq_true rfl) rfl ?_
      refine aj_iload_n (3) dX12_out_59 rfl rfl ?_
      refine aj_iload_n (0) dX12_out_60 rfl rfl ?_
      refine aj_mmax zg_1822 zg_40 zg_3 zg_41 (by decide) (Nat.le_of_ble_eq_true rfl) dX12_out_61 ?_
      refine aj_istore_n (ls2 := [(3, .int ((if x3 < (x2 + (1 : Int32)) then (x2 + (1 : Int32)) else x3))), (2, .int ((x2 + (1 : Int32)))), (0, .ref (p0)), (1, .int (x1)), (4, .int (x4))]) dX12_out_64 rfl (Nat.le_of_ble_eq_true rfl) rfl ?_
      refine aj_iinc (j := 4) (v := (x4 + (1 : Int32))) (ls2 := [(4, .int ((x4 + (1 : Int32)))), (3, .int ((if x3 < (x2 + (1 : Int32)) then (x2 + (1 : Int32)) else x3))), (2, .int ((x2 + (1 : Int32)))), (0, .ref (p0)), (1, .int (x1))]) dX12_out_65 rfl rfl (Nat.le_of_ble_eq_true rfl) rfl ?_
      refine aj_goto (tgt := 28) dX12_out_68 (by decide) ?_
      refine AJ.sub [3, 4, 2, 1, 0] rfl ?_
      exact ih (p0) (x1) ((x2 + (1 : Int32))) ((if x3 < (x2 + (1 : Int32)) then (x2 + (1 : Int32)) else x3)) ((x4 + (1 : Int32))) M1
    refine aj_iconst (v := (0 : Int32)) dX12_out_51 (by decide) ?_
    refine aj_goto (tgt := 58) dX12_out_52 (by decide) ?_
    refine aj_istore_n (ls2 := [(2, .int ((0 : Int32))), (0, .ref (p0)), (1, .int (x1)), (3, .int (x3)), (4, .int (x4))]) dX12_out_58 rfl (Nat.le_of_ble_eq_true rfl) rfl ?_
    refine aj_iload_n (3) dX12_out_59 rfl rfl ?_
    refine aj_iload_n (0) dX12_out_60 rfl rfl ?_
    refine aj_mmax zg_1822 zg_40 zg_3 zg_41 (by decide) (Nat.le_of_ble_eq_true rfl) dX12_out_61 ?_
    refine aj_istore_n (ls2 := [(3, .int ((if x3 < (0 : Int32) then (0 : Int32) else x3))), (2, .int ((0 : Int32))), (0, .ref (p0)), (1, .int (x1)), (4, .int (x4))]) dX12_out_64 rfl (Nat.le_of_ble_eq_true rfl) rfl ?_
    refine aj_iinc (j := 4) (v := (x4 + (1 : Int32))) (ls2 := [(4, .int ((x4 + (1 : Int32)))), (3, .int ((if x3 < (0 : Int32) then (0 : Int32) else x3))), (2, .int ((0 : Int32))), (0, .ref (p0)), (1, .int (x1))]) dX12_out_65 rfl rfl (Nat.le_of_ble_eq_true rfl) rfl ?_
    refine aj_goto (tgt := 28) dX12_out_68 (by decide) ?_
    refine AJ.sub [3, 4, 2, 1, 0] rfl ?_
    exact ih (p0) (x1) ((0 : Int32)) ((if x3 < (0 : Int32) then (0 : Int32) else x3)) ((x4 + (1 : Int32))) M1
def gX12_out (S : List (Nat × Nat)) (p0 : Nat) (x1 : Int32) (M : zM) : Option (Int32 × zM) := zpI S M (p0) 12 66 0 ((0 : Int32)) (fun M1 => zrc S (p0) 12 66 ((gX12_isTrade S (p0) (x1) M1).bind (fun v2 => (if v2 = 0 then some ((-1 : Int32), M1) else zrc S (p0) 12 66 ((gX12_copies S (p0) ((1 : Int32)) ((0 : Int32)) M1).bind (fun M3 => gX12_out_28 S zfu (p0) (x1) ((0 : Int32)) ((0 : Int32)) ((0 : Int32)) M3))))))
set_option maxHeartbeats 4000000 in
set_option maxRecDepth 100000 in
theorem c_X12_out (w : zWd) (S : List (Nat × Nat)) (p0 : Nat) (x1 : Int32) (M : zM) : CT (zfIM S) w 8 mX12_out [.ref (p0), .int (x1)] (S, M) (gX12_out S p0 x1 M) := by
  refine CT.of (by decide) (Nat.le_of_ble_eq_true rfl) ?_
  show AJ _ _ _ _ 0 [(0, .ref (p0)), (1, .int (x1))] [] _ _
  unfold gX12_out
  refine aj_aload_n (0) dX12_out_0 rfl rfl ?_
  refine aj_iconst (v := (0 : Int32)) dX12_out_1 (by decide) ?_
  refine r_putI (TX := TX12) zc12 (by decide) rfl rfl rfl rfl (Or.inl zg_1350) dX12_out_2 (fun M1 => ?_)
  refine aj_aload_n (0) dX12_out_5 rfl rfl ?_
  refine aj_iload_n (1) dX12_out_6 rfl rfl ?_
  refine rV_I (as := [.int (x1)]) (c_X12_isTrade w S _ _ _) mv_X12_isTrade rfl zg_1694 (by decide) (Nat.le_of_ble_eq_true rfl) dX12_out_7 (fun v2 => ?_)
  refine aj_if_ne (tgt := 15) dX12_out_10 (by decide) (fun h => ?_) (fun h => ?_)
  · refine aj_aload_n (0) dX12_out_15 rfl rfl ?_
    refine aj_iconst (v := (1 : Int32)) dX12_out_16 (by decide) ?_
    refine aj_iconst (v := (0 : Int32)) dX12_out_17 (by decide) ?_
    refine rV_VM (as := [.int ((1 : Int32)), .int ((0 : Int32))]) (c_X12_copies w S _ _ _ _) mv_X12_copies rfl zg_1779 (by decide) (Nat.le_of_ble_eq_true rfl) dX12_out_18 (fun M3 => ?_)
    refine aj_iconst (v := (0 : Int32)) dX12_out_21 (by decide) ?_
    refine aj_istore_n (ls2 := [(2, .int ((0 : Int32))), (0, .ref (p0)), (1, .int (x1))]) dX12_out_22 rfl (Nat.le_of_ble_eq_true rfl) rfl ?_
    refine aj_iconst (v := (0 : Int32)) dX12_out_23 (by decide) ?_
    refine aj_istore_n (ls2 := [(3, .int ((0 : Int32))), (2, .int ((0 : Int32))), (0, .ref (p0)), (1, .int (x1))]) dX12_out_24 rfl (Nat.le_of_ble_eq_true rfl) rfl ?_
    refine aj_iconst (v := (0 : Int32)) dX12_out_25 (by decide) ?_
    refine aj_istore (ls2 := [(4, .int ((0 : Int32))), (3, .int ((0 : Int32))), (2, .int ((0 : Int32))), (0, .ref (p0)), (1, .int (x1))]) dX12_out_26 (Nat.le_of_ble_eq_true rfl) rfl ?_
    refine AJ.sub [3, 4, 2, 1, 0] rfl ?_
    exact t_X12_out_28 w S zfu (p0) (x1) ((0 : Int32)) ((0 : Int32)) ((0 : Int32)) M3
  refine aj_iconst (v := (-1 : Int32)) dX12_out_13 (by decide) ?_
  exact aj_iret dX12_out_14 rfl rfl rfl
def gX12_missing (S : List (Nat × Nat)) (p0 : Nat) (x1 : Int32) (M : zM) : Option (Int32 × zM) := zpI S M (p0) 12 66 0 ((0 : Int32)) (fun M1 => (gX12_isAhead S (x1) M1).bind (fun v2 => (if v2 = 0 then some ((-1 : Int32), M1) else zrc S (p0) 12 66 ((gX12_copies S (p0) ((1 : Int32)) ((0 : Int32)) M1).bind (fun M3 => zrc S (p0) 12 66 ((gX12_goesOn S (p0) (x1) M3).bind (fun M4 => zgR S M4 (p0) 12 66 38 (fun r5 => zaI S M4 100 (r5) ((1 : Int32)) (fun v6 => zgR S M4 (p0) 12 66 38 (fun r7 => zaI S M4 100 (r7) ((0 : Int32)) (fun v8 => some ((v6 - v8), M4))))))))))))
set_option maxHeartbeats 4000000 in
set_option maxRecDepth 100000 in
theorem c_X12_missing (w : zWd) (S : List (Nat × Nat)) (p0 : Nat) (x1 : Int32) (M : zM) : CT (zfIM S) w 9 mX12_missing [.ref (p0), .int (x1)] (S, M) (gX12_missing S p0 x1 M) := by
  refine CT.of (by decide) (Nat.le_of_ble_eq_true rfl) ?_
  show AJ _ _ _ _ 0 [(0, .ref (p0)), (1, .int (x1))] [] _ _
  unfold gX12_missing
  refine aj_aload_n (0) dX12_missing_0 rfl rfl ?_
  refine aj_iconst (v := (0 : Int32)) dX12_missing_1 (by decide) ?_
  refine r_putI (TX := TX12) zc12 (by decide) rfl rfl rfl rfl (Or.inl zg_1350) dX12_missing_2 (fun M1 => ?_)
  refine aj_iload_n (1) dX12_missing_5 rfl rfl ?_
  refine rS_I (as := [.int (x1)]) (c_X12_isAhead w S _ _) ms_X12_isAhead rfl zg_1827 (by decide) (Nat.le_of_ble_eq_true rfl) dX12_missing_6 (fun v2 => ?_)
  refine aj_if_ne (tgt := 14) dX12_missing_9 (by decide) (fun h => ?_) (fun h => ?_)
  · refine aj_aload_n (0) dX12_missing_14 rfl rfl ?_
    refine aj_iconst (v := (1 : Int32)) dX12_missing_15 (by decide) ?_
    refine aj_iconst (v := (0 : Int32)) dX12_missing_16 (by decide) ?_
    refine rV_VM (as := [.int ((1 : Int32)), .int ((0 : Int32))]) (c_X12_copies w S _ _ _ _) mv_X12_copies rfl zg_1779 (by decide) (Nat.le_of_ble_eq_true rfl) dX12_missing_17 (fun M3 => ?_)
    refine aj_aload_n (0) dX12_missing_20 rfl rfl ?_
    refine aj_iload_n (1) dX12_missing_21 rfl rfl ?_
    refine rV_VM (as := [.int (x1)]) (c_X12_goesOn w S _ _ _) mv_X12_goesOn rfl zg_1838 (by decide) (Nat.le_of_ble_eq_true rfl) dX12_missing_22 (fun M4 => ?_)
    refine aj_aload_n (0) dX12_missing_25 rfl rfl ?_
    refine aj_getR (TX := TX12) zc12 (by decide) rfl (Or.inl zg_1388) dX12_missing_26 (fun r5 => ?_)
    refine aj_iconst (v := (1 : Int32)) dX12_missing_29 (by decide) ?_
    refine r_iald dX12_missing_30 (fun v6 => ?_)
    refine aj_aload_n (0) dX12_missing_31 rfl rfl ?_
    refine aj_getR (TX := TX12) zc12 (by decide) rfl (Or.inl zg_1388) dX12_missing_32 (fun r7 => ?_)
    refine aj_iconst (v := (0 : Int32)) dX12_missing_35 (by decide) ?_
    refine r_iald dX12_missing_36 (fun v8 => ?_)
    refine aj_isub dX12_missing_37 ?_
    exact aj_iret dX12_missing_38 rfl rfl rfl
  refine aj_iconst (v := (-1 : Int32)) dX12_missing_12 (by decide) ?_
  exact aj_iret dX12_missing_13 rfl rfl rfl
def gX12_doesAll_28 (S : List (Nat × Nat)) (k2 : Nat → Int32 → zM → Option Int32) : Nat → Nat → Int32 → Int32 → Int32 → zM → Option Int32
  | 0 => fun _ _ _ _ _ => none
  | n + 1 => fun p0 x1 x2 x3 M => zgR S M (p0) 12 66 3 (fun r1 => zaI S M 100 (r1) ((0 : Int32)) (fun v2 => (if v2 ≤ x3 then (if x2 ≤ 0 then k2 (p0) ((x1 + (1 : Int32))) M else some ((0 : Int32))) else zgR S M (p0) 12 66 51 (fun r3 => zaI S M 100 (r3) (x3) (fun v4 => zgR S M (p0) 12 66 10 (fun r5 => zaI S M 100 (r5) (x1) (fun v6 => (if v4 < v6 then (gX12_doesAll_28 S  k2 n) (p0) (x1) ((x2 - (0 : Int32))) ((x3 + (1 : Int32))) M else zgR S M (p0) 12 66 51 (fun r7 => zaI S M 100 (r7) (x3) (fun v8 => zgR S M (p0) 12 66 11 (fun r9 => zaI S M 100 (r9) (x1) (fun v10 => (if v10 < v8 then (gX12_doesAll_28 S  k2 n) (p0) (x1) ((x2 - (0 : Int32))) ((x3 + (1 : Int32))) M else zgR S M (p0) 12 66 52 (fun r11 => zaI S M 100 (r11) (x3) (fun v12 => (gX12_doesAll_28 S  k2 n) (p0) (x1) ((x2 - v12)) ((x3 + (1 : Int32))) M)))))))))))))))
set_option maxHeartbeats 4000000 in
set_option maxRecDepth 100000 in
theorem t_X12_doesAll_28 (w : zWd) (S : List (Nat × Nat)) (k2 : Nat → Int32 → zM → Option Int32) (hk2 : ∀ (p0 : Nat) (x1 : Int32) (M : zM), AJ (zfI S M) w 1 mX12_doesAll 2 [(0, .ref (p0)), (1, .int (x1))] [] (S, M) (k2 p0 x1 M)) (fu : Nat) : ∀ (p0 : Nat) (x1 : Int32) (x2 : Int32) (x3 : Int32) (M : zM), AJ (zfI S M) w 1 mX12_doesAll 28 [(0, .ref (p0)), (1, .int (x1)), (2, .int (x2)), (3, .int (x3))] [] (S, M) (gX12_doesAll_28 S k2 fu p0 x1 x2 x3 M) := by
  induction fu with
  | zero => intro p0 x1 x2 x3 M; exact AJ.none
  | succ n ih =>
    intro p0 x1 x2 x3 M
    unfold gX12_doesAll_28
    refine aj_iload_n (3) dX12_doesAll_28 rfl rfl ?_
    refine aj_aload_n (0) dX12_doesAll_29 rfl rfl ?_
    refine aj_getR (TX := TX12) zc12 (by decide) rfl (Or.inl zg_1353) dX12_doesAll_30 (fun r1 => ?_)
    refine aj_iconst (v := (0 : Int32)) dX12_doesAll_33 (by decide) ?_
    refine r_iald dX12_doesAll_34 (fun v2 => ?_)
    refine aj_icmp_ge (tgt := 87) dX12_doesAll_35 (by decide) (fun h => ?_) (fun h => ?_)
    · refine aj_iload_n (2) dX12_doesAll_87 rfl rfl ?_
      refine aj_if_le (tgt := 93) dX12_doesAll_88 (by decide) (fun h => ?_) (fun h => ?_)
      · refine aj_iinc (j := 1) (v := (x1 + (1 : Int32))) (ls2 := [(1, .int ((x1 + (1 : Int32)))), (0, .ref (p0)), (2, .int (x2)), (3, .int (x3))]) dX12_doesAll_93 rfl rfl (Nat.le_of_ble_eq_true rfl) rfl ?_
        refine aj_goto (tgt := 2) dX12_doesAll_96 (by decide) ?_
        refine AJ.sub [1, 0] rfl ?_
        exact hk2 (p0) ((x1 + (1 : Int32))) M
      refine aj_iconst (v := (0 : Int32)) dX12_doesAll_91 (by decide) ?_
      exact aj_iret dX12_doesAll_92 rfl (by decide +kernel) rfl
    refine aj_iload_n (2) dX12_doesAll_38 rfl rfl ?_
    refine aj_aload_n (0) dX12_doesAll_39 rfl rfl ?_
    refine aj_getR (TX := TX12) zc12 (by decide) rfl (Or.inl zg_1401) dX12_doesAll_40 (fun r3 => ?_)
    refine aj_iload_n (3) dX12_doesAll_43 rfl rfl ?_
    refine r_iald dX12_doesAll_44 (fun v4 => ?_)
    refine aj_aload_n (0) dX12_doesAll_45 rfl rfl ?_
    refine aj_getR (TX := TX12) zc12 (by decide) rfl (Or.inl zg_1360) dX12_doesAll_46 (fun r5 => ?_)
    refine aj_iload_n (1) dX12_doesAll_49 rfl rfl ?_
    refine r_iald dX12_doesAll_50 (fun v6 => ?_)
    refine aj_icmp_lt (tgt := 78) dX12_doesAll_51 (by decide) (fun h => ?_) (fun h => ?_)
    · refine aj_iconst (v := (0 : Int32)) dX12_doesAll_78 (by decide) ?_
      refine aj_isub dX12_doesAll_79 ?_
      refine aj_istore_n (ls2 := [(2, .int ((x2 - (0 : Int32)))), (0, .ref (p0)), (1, .int (x1)), (3, .int (x3))]) dX12_doesAll_80 rfl (Nat.le_of_ble_eq_true rfl) rfl ?_
      refine aj_iinc (j := 3) (v := (x3 + (1 : Int32))) (ls2 := [(3, .int ((x3 + (1 : Int32)))), (2, .int ((x2 - (0 : Int32)))), (0, .ref (p0)), (1, .int (x1))]) dX12_doesAll_81 rfl rfl (Nat.le_of_ble_eq_true rfl) rfl ?_
      refine aj_goto (tgt := 28) dX12_doesAll_84 (by decide) ?_
      refine AJ.sub [2, 3, 1, 0] rfl ?_
      exact ih (p0) (x1) ((x2 - (0 : Int32))) ((x3 + (1 : Int32))) M
    refine aj_aload_n (0) dX12_doesAll_54 rfl rfl ?_
    refine aj_getR (TX := TX12) zc12 (by decide) rfl (Or.inl zg_1401) dX12_doesAll_55 (fun r7 => ?_)
    refine aj_iload_n (3) dX12_doesAll_58 rfl rfl ?_
    refine r_iald dX12_doesAll_59 (fun v8 => ?_)
    refine aj_aload_n (0) dX12_doesAll_60 rfl rfl ?_
    refine aj_getR (TX := TX12) zc12 (by decide) rfl (Or.inl zg_1361) dX12_doesAll_61 (fun r9 => ?_)
    refine aj_iload_n (1) dX12_doesAll_64 rfl rfl ?_
    refine r_iald dX12_doesAll_65 (fun v10 => ?_)
    refine aj_icmp_gt (tgt := 78) dX12_doesAll_66 (by decide) (fun h => ?_) (fun h => ?_)
    · refine aj_iconst (v := (0 : Int32)) dX12_doesAll_78 (by decide) ?_
      refine aj_isub dX12_doesAll_79 ?_
      refine aj_istore_n (ls2 := [(2, .int ((x2 - (0 : Int32)))), (0, .ref (p0)), (1, .int (x1)), (3, .int (x3))]) dX12_doesAll_80 rfl (Nat.le_of_ble_eq_true rfl) rfl ?_
      refine aj_iinc (j := 3) (v := (x3 + (1 : Int32))) (ls2 := [(3, .int ((x3 + (1 : Int32)))), (2, .int ((x2 - (0 : Int32)))), (0, .ref (p0)), (1, .int (x1))]) dX12_doesAll_81 rfl rfl (Nat.le_of_ble_eq_true rfl) rfl ?_
      refine aj_goto (tgt := 28) dX12_doesAll_84 (by decide) ?_
      refine AJ.sub [2, 3, 1, 0] rfl ?_
      exact ih (p0) (x1) ((x2 - (0 : Int32))) ((x3 + (1 : Int32))) M
    refine aj_aload_n (0) dX12_doesAll_69 rfl rfl ?_
    refine aj_getR (TX := TX12) zc12 (by decide) rfl (Or.inl zg_1402) dX12_doesAll_70 (fun r11 => ?_)
    refine aj_iload_n (3) dX12_doesAll_73 rfl rfl ?_
    refine r_iald dX12_doesAll_74 (fun v12 => ?_)
    refine aj_goto (tgt := 79) dX12_doesAll_75 (by decide) ?_
    refine aj_isub dX12_doesAll_79 ?_
    refine aj_istore_n (ls2 := [(2, .int ((x2 - v12))), (0, .ref (p0)), (1, .int (x1)), (3, .int (x3))]) dX12_doesAll_80 rfl (Nat.le_of_ble_eq_true rfl) rfl ?_
    refine aj_iinc (j := 3) (v := (x3 + (1 : Int32))) (ls2 := [(3, .int ((x3 + (1 : Int32)))), (2, .int ((x2 - v12))), (0, .ref (p0)), (1, .int (x1))]) dX12_doesAll_81 rfl rfl (Nat.le_of_ble_eq_true rfl) rfl ?_
    refine aj_goto (tgt := 28) dX12_doesAll_84 (by decide) ?_
    refine AJ.sub [2, 3, 1, 0] rfl ?_
    exact ih (p0) (x1) ((x2 - v12)) ((x3 + (1 : Int32))) M
def gX12_doesAll_2 (S : List (Nat × Nat)) : Nat → Nat → Int32 → zM → Option Int32
  | 0 => fun _ _ _ => none
  | n + 1 => fun p0 x1 M => zgR S M (p0) 12 66 3 (fun r1 => zaI S M 100 (r1) ((3 : Int32)) (fun v2 => (if v2 ≤ x1 then some ((1 : Int32)) else zgR S M (p0) 12 66 12 (fun r3 => zaI S M 100 (r3) (x1) (fun v4 => zgR S M (p0) 12 66 44 (fun r5 => zaI S M 100 (r5) (x1) (fun v6 => gX12_doesAll_28 S (gX12_doesAll_2 S   n) zfu (p0) (x1) ((v4 - v6)) ((0 : Int32)) M)))))))
set_option maxHeartbeats 4000000 in
set_option maxRecDepth 100000 in
theorem t_X12_doesAll_2 (w : zWd) (S : List (Nat × Nat)) (fu : Nat) : ∀ (p0 : Nat) (x1 : Int32) (M : zM), AJ (zfI S M) w 1 mX12_doesAll 2 [(0, .ref (p0)), (1, .int (x1))] [] (S, M) (gX12_doesAll_2 S fu p0 x1 M) := by
  induction fu with
  | zero => intro p0 x1 M; exact AJ.none
  | succ n ih =>
    intro p0 x1 M
    unfold gX12_doesAll_2
    refine aj_iload_n (1) dX12_doesAll_2 rfl rfl ?_
    refine aj_aload_n (0) dX12_doesAll_3 rfl rfl ?_
    refine aj_getR (TX := TX12) zc12 (by decide) rfl (Or.inl zg_1353) dX12_doesAll_4 (fun r1 => ?_)
    refine aj_iconst (v := (3 : Int32)) dX12_doesAll_7 (by decide) ?_
    refine r_iald dX12_doesAll_8 (fun v2 => ?_)
    refine aj_icmp_ge (tgt := 99) dX12_doesAll_9 (by decide) (fun h => ?_) (fun h => ?_)
    · refine aj_iconst (v := (1 : Int32)) dX12_doesAll_99 (by decide) ?_
      exact aj_iret dX12_doesAll_100 rfl (by decide +kernel) rfl
    refine aj_aload_n (0) dX12_doesAll_12 rfl rfl ?_
    refine aj_getR (TX := TX12) zc12 (by decide) rfl (Or.inl zg_1362) dX12_doesAll_13 (fun r3 => ?_)
    refine aj_iload_n (1) dX12_doesAll_16 rfl rfl ?_
    refine r_iald dX12_doesAll_17 (fun v4 => ?_)
    refine aj_aload_n (0) dX12_doesAll_18 rfl rfl ?_
    refine aj_getR (TX := TX12) zc12 (by decide) rfl (Or.inl zg_1394) dX12_doesAll_19 (fun r5 => ?_)
    refine aj_iload_n (1) dX12_doesAll_22 rfl rfl ?_
    refine r_iald dX12_doesAll_23 (fun v6 => ?_)
    refine aj_isub dX12_doesAll_24 ?_
    refine aj_istore_n (ls2 := [(2, .int ((v4 - v6))), (0, .ref (p0)), (1, .int (x1))]) dX12_doesAll_25 rfl (Nat.le_of_ble_eq_true rfl) rfl ?_
    refine aj_iconst (v := (0 : Int32)) dX12_doesAll_26 (by decide) ?_
    refine aj_istore_n (ls2 := [(3, .int ((0 : Int32))), (2, .int ((v4 - v6))), (0, .ref (p0)), (1, .int (x1))]) dX12_doesAll_27 rfl (Nat.le_of_ble_eq_true rfl) rfl ?_
    refine AJ.sub [2, 3, 1, 0] rfl ?_
    exact t_X12_doesAll_28 w S (gX12_doesAll_2 S   n) ih zfu (p0) (x1) ((v4 - v6)) ((0 : Int32)) M
def gX12_doesAll (S : List (Nat × Nat)) (p0 : Nat) (M : zM) : Option Int32 := gX12_doesAll_2 S zfu (p0) ((0 : Int32)) M
set_option maxHeartbeats 4000000 in
set_option maxRecDepth 100000 in
theorem c_X12_doesAll (w : zWd) (S : List (Nat × Nat)) (p0 : Nat) (M : zM) : CT (zfI S M) w 1 mX12_doesAll [.ref (p0)] (S, M) (gX12_doesAll S p0 M) := by
  refine CT.of (by decide) (Nat.le_of_ble_eq_true rfl) ?_
  show AJ _ _ _ _ 0 [(0, .ref (p0))] [] _ _
  unfold gX12_doesAll
  refine aj_iconst (v := (0 : Int32)) dX12_doesAll_0 (by decide) ?_
  refine aj_istore_n (ls2 := [(1, .int ((0 : Int32))), (0, .ref (p0))]) dX12_doesAll_1 rfl (Nat.le_of_ble_eq_true rfl) rfl ?_
  refine AJ.sub [1, 0] rfl ?_
  exact t_X12_doesAll_2 w S zfu (p0) ((0 : Int32)) M
def gX12_gives_29 (S : List (Nat × Nat)) (rk : Nat → Int32 → Int32 → zM → Option (Int32 × zM)) : Nat → Nat → Int32 → Int32 → Int32 → zM → Option (Int32 × zM)
  | 0 => fun _ _ _ _ _ => none
  | n + 1 => fun p0 x1 x2 x3 M => (if x3 < 0 then some ((0 : Int32), M) else zgR S M (p0) 12 66 52 (fun r1 => zbI S M (r1) (x1) (x3) (fun M2 => zrc S (p0) 12 66 (zb2 (rk (p0) ((x1 + (1 : Int32))) ((x2 - x3)) M2) (fun v3 M4 => (if v3 = 0 then (gX12_gives_29 S rk  n) (p0) (x1) (x2) ((x3 + (-1 : Int32))) M4 else some ((1 : Int32), M4)))))))
set_option maxHeartbeats 4000000 in
set_option maxRecDepth 100000 in
theorem t_X12_gives_29 (w : zWd) (S : List (Nat × Nat)) (rk : Nat → Int32 → Int32 → zM → Option (Int32 × zM)) (n9 : Nat) (hrk : ∀ (p0 : Nat) (x1 : Int32) (x2 : Int32) (M : zM), CT (zfIM S) w (2 + n9) mX12_gives [.ref (p0), .int (x1), .int (x2)] (S, M) (rk p0 x1 x2 M)) (fu : Nat) : ∀ (p0 : Nat) (x1 : Int32) (x2 : Int32) (x3 : Int32) (M : zM), AJ (zfIM S) w (2 + n9 + 1) mX12_gives 29 [(0, .ref (p0)), (1, .int (x1)), (2, .int (x2)), (3, .int (x3))] [] (S, M) (gX12_gives_29 S rk fu p0 x1 x2 x3 M) := by
  induction fu with
  | zero => intro p0 x1 x2 x3 M; exact AJ.none
  | succ n ih =>
    intro p0 x1 x2 x3 M
    unfold gX12_gives_29
    refine aj_iload_n (3) dX12_gives_29 rfl rfl ?_
    refine aj_if_lt (tgt := 61) dX12_gives_30 (by decide) (fun h => ?_) (fun h => ?_)
    · refine aj_iconst (v := (0 : Int32)) dX12_gives_61 (by decide) ?_
      exact aj_iret dX12_gives_62 rfl (by decide +kernel) rfl
    refine aj_aload_n (0) dX12_gives_33 rfl rfl ?_
    refine aj_getR (TX := TX12) zc12 (by decide) rfl (Or.inl zg_1402) dX12_gives_34 (fun r1 => ?_)
    refine aj_iload_n (1) dX12_gives_37 rfl rfl ?_
    refine aj_iload_n (3) dX12_gives_38 rfl rfl ?_
    refine r_iast dX12_gives_39 (fun M2 => ?_)
    refine aj_aload_n (0) dX12_gives_40 rfl rfl ?_
    refine aj_iload_n (1) dX12_gives_41 rfl rfl ?_
    refine aj_iconst (v := (1 : Int32)) dX12_gives_42 (by decide) ?_
    refine aj_iadd dX12_gives_43 ?_
    refine aj_iload_n (2) dX12_gives_44 rfl rfl ?_
    refine aj_iload_n (3) dX12_gives_45 rfl rfl ?_
    refine aj_isub dX12_gives_46 ?_
    refine rV_IM (as := [.int ((x1 + (1 : Int32))), .int ((x2 - x3))]) (hrk _ _ _ _) mv_X12_gives rfl zg_1870 (by omega) (Nat.le_of_ble_eq_true rfl) dX12_gives_47 (fun v3 M4 => ?_)
    refine aj_if_eq (tgt := 55) dX12_gives_50 (by decide) (fun h => ?_) (fun h => ?_)
    · refine aj_iinc (j := 3) (v := (x3 + (-1 : Int32))) (ls2 := [(3, .int ((x3 + (-1 : Int32)))), (0, .ref (p0)), (1, .int (x1)), (2, .int (x2))]) dX12_gives_55 rfl rfl (Nat.le_of_ble_eq_true rfl) rfl ?_
      refine aj_goto (tgt := 29) dX12_gives_58 (by decide) ?_
      refine AJ.sub [1, 2, 3, 0] rfl ?_
      exact ih (p0) (x1) (x2) ((x3 + (-1 : Int32))) M4
    refine aj_iconst (v := (1 : Int32)) dX12_gives_53 (by decide) ?_
    exact aj_iret dX12_gives_54 rfl (by decide +kernel) rfl
def gX12_givesB (S : List (Nat × Nat)) (rk : Nat → Int32 → Int32 → zM → Option (Int32 × zM)) (p0 : Nat) (x1 : Int32) (x2 : Int32) (M : zM) : Option (Int32 × zM) := zgR S M (p0) 12 66 3 (fun r1 => zaI S M 100 (r1) ((0 : Int32)) (fun v2 => (if x1 = v2 then (if x2 = 0 then zrc S (p0) 12 66 ((gX12_doesAll S (p0) M).bind (fun v3 => (if v3 = 0 then some ((0 : Int32), M) else some ((1 : Int32), M)))) else some ((0 : Int32), M)) else gX12_gives_29 S rk zfu (p0) (x1) (x2) (x2) M)))
set_option maxHeartbeats 4000000 in
set_option maxRecDepth 100000 in
theorem c_X12_givesB (w : zWd) (S : List (Nat × Nat)) (rk : Nat → Int32 → Int32 → zM → Option (Int32 × zM)) (n9 : Nat) (hrk : ∀ (p0 : Nat) (x1 : Int32) (x2 : Int32) (M : zM), CT (zfIM S) w (2 + n9) mX12_gives [.ref (p0), .int (x1), .int (x2)] (S, M) (rk p0 x1 x2 M)) (p0 : Nat) (x1 : Int32) (x2 : Int32) (M : zM) : CT (zfIM S) w (2 + n9 + 1) mX12_gives [.ref (p0), .int (x1), .int (x2)] (S, M) (gX12_givesB S rk p0 x1 x2 M) := by
  refine CT.of (by decide) (Nat.le_of_ble_eq_true rfl) ?_
  show AJ _ _ _ _ 0 [(0, .ref (p0)), (1, .int (x1)), (2, .int (x2))] [] _ _
  unfold gX12_givesB
  refine aj_iload_n (1) dX12_gives_0 rfl rfl ?_
  refine aj_aload_n (0) dX12_gives_1 rfl rfl ?_
  refine aj_getR (TX := TX12) zc12 (by decide) rfl (Or.inl zg_1353) dX12_gives_2 (fun r1 => ?_)
  refine aj_iconst (v := (0 : Int32)) dX12_gives_5 (by decide) ?_
  refine r_iald dX12_gives_6 (fun v2 => ?_)
  refine aj_icmp_ne (tgt := 27) dX12_gives_7 (by decide) (fun h => ?_) (fun h => ?_)
  · refine aj_iload_n (2) dX12_gives_27 rfl rfl ?_
    refine aj_istore_n (ls2 := [(3, .int (x2)), (0, .ref (p0)), (1, .int (x1)), (2, .int (x2))]) dX12_gives_28 rfl (Nat.le_of_ble_eq_true rfl) rfl ?_
    refine AJ.sub [1, 2, 3, 0] rfl ?_
    exact t_X12_gives_29 w S rk n9 hrk zfu (p0) (x1) (x2) (x2) M
  refine aj_iload_n (2) dX12_gives_10 rfl rfl ?_
  refine aj_if_ne (tgt := 25) dX12_gives_11 (by decide) (fun h => ?_) (fun h => ?_)
  · refine aj_iconst (v := (0 : Int32)) dX12_gives_25 (by decide) ?_
    exact aj_iret dX12_gives_26 rfl (by decide +kernel) rfl
  refine aj_aload_n (0) dX12_gives_14 rfl rfl ?_
  refine rV_I (as := []) (c_X12_doesAll w S _ _) mv_X12_doesAll rfl zg_1874 (by omega) (Nat.le_of_ble_eq_true rfl) dX12_gives_15 (fun v3 => ?_)
  refine aj_if_eq (tgt := 25) dX12_gives_18 (by decide) (fun h => ?_) (fun h => ?_)
  · refine aj_iconst (v := (0 : Int32)) dX12_gives_25 (by decide) ?_
    exact aj_iret dX12_gives_26 rfl (by decide +kernel) rfl
  refine aj_iconst (v := (1 : Int32)) dX12_gives_21 (by decide) ?_
  refine aj_goto (tgt := 26) dX12_gives_22 (by decide) ?_
  exact aj_iret dX12_gives_26 rfl (by decide +kernel) rfl
def gX12_gives (S : List (Nat × Nat)) : Nat → Nat → Int32 → Int32 → zM → Option (Int32 × zM)
  | 0 => fun _ _ _ _ => none
  | n + 1 => fun p0 x1 x2 M => gX12_givesB S (gX12_gives S n) p0 x1 x2 M
theorem c_X12_gives (w : zWd) (S : List (Nat × Nat)) (n : Nat) : ∀ (p0 : Nat) (x1 : Int32) (x2 : Int32) (M : zM), CT (zfIM S) w (2 + n) mX12_gives [.ref (p0), .int (x1), .int (x2)] (S, M) (gX12_gives S n p0 x1 x2 M) := by
  induction n with
  | zero => intro p0 x1 x2 M r h; cases h
  | succ n ih => intro p0 x1 x2 M; exact c_X12_givesB w S _ n ih p0 x1 x2 M
def gX12_planned_32 (S : List (Nat × Nat)) : Nat → Nat → Int32 → zM → Option (Int32 × zM)
  | 0 => fun _ _ _ => none
  | n + 1 => fun p0 x1 M => (if (12 : Int32) < x1 then some ((-2 : Int32), M) else zrc S (p0) 12 66 (zb2 (gX12_gives S 12 (p0) ((0 : Int32)) (x1) M) (fun v1 M2 => (if v1 = 0 then (gX12_planned_32 S   n) (p0) ((x1 + (1 : Int32))) M2 else some (x1, M2)))))
set_option maxHeartbeats 4000000 in
set_option maxRecDepth 100000 in
theorem t_X12_planned_32 (w : zWd) (S : List (Nat × Nat)) (fu : Nat) : ∀ (p0 : Nat) (x1 : Int32) (M : zM), AJ (zfIM S) w 15 mX12_planned 32 [(0, .ref (p0)), (1, .int (x1))] [] (S, M) (gX12_planned_32 S fu p0 x1 M) := by
  induction fu with
  | zero => intro p0 x1 M; exact AJ.none
  | succ n ih =>
    intro p0 x1 M
    unfold gX12_planned_32
    refine aj_iload_n (1) dX12_planned_32 rfl rfl ?_
    refine aj_bipush (v := (12 : Int32)) dX12_planned_33 (by decide) ?_
    refine aj_icmp_gt (tgt := 55) dX12_planned_35 (by decide) (fun h => ?_) (fun h => ?_)
    · refine aj_bipush (v := (-2 : Int32)) dX12_planned_55 (by decide) ?_
      exact aj_iret dX12_planned_57 rfl rfl rfl
    refine aj_aload_n (0) dX12_planned_38 rfl rfl ?_
    refine aj_iconst (v := (0 : Int32)) dX12_planned_39 (by decide) ?_
    refine aj_iload_n (1) dX12_planned_40 rfl rfl ?_
    refine rV_IM (as := [.int ((0 : Int32)), .int (x1)]) (c_X12_gives w S 12 _ _ _ _) mv_X12_gives rfl zg_1870 (by decide) (Nat.le_of_ble_eq_true rfl) dX12_planned_41 (fun v1 M2 => ?_)
    refine aj_if_eq (tgt := 49) dX12_planned_44 (by decide) (fun h => ?_) (fun h => ?_)
    · refine aj_iinc (j := 1) (v := (x1 + (1 : Int32))) (ls2 := [(1, .int ((x1 + (1 : Int32)))), (0, .ref (p0))]) dX12_planned_49 rfl rfl (Nat.le_of_ble_eq_true rfl) rfl ?_
      refine aj_goto (tgt := 32) dX12_planned_52 (by decide) ?_
      refine AJ.sub [1, 0] rfl ?_
      exact ih (p0) ((x1 + (1 : Int32))) M2
    refine aj_iload_n (1) dX12_planned_47 rfl rfl ?_
    exact aj_iret dX12_planned_48 rfl rfl rfl
def gX12_planned_2 (S : List (Nat × Nat)) : Nat → Nat → Int32 → zM → Option (Int32 × zM)
  | 0 => fun _ _ _ => none
  | n + 1 => fun p0 x1 M => zgR S M (p0) 12 66 3 (fun r1 => zaI S M 100 (r1) ((0 : Int32)) (fun v2 => (if v2 ≤ x1 then gX12_planned_32 S zfu (p0) ((0 : Int32)) M else zgR S M (p0) 12 66 51 (fun r3 => zrc S (p0) 12 66 (zb2 (gX12_lengthOf S (p0) ((0 : Int32)) (x1) M) (fun v4 M5 => zbI S M5 (r3) (x1) (v4) (fun M6 => (gX12_planned_2 S   n) (p0) ((x1 + (1 : Int32))) M6)))))))
set_option maxHeartbeats 4000000 in
set_option maxRecDepth 100000 in
theorem t_X12_planned_2 (w : zWd) (S : List (Nat × Nat)) (fu : Nat) : ∀ (p0 : Nat) (x1 : Int32) (M : zM), AJ (zfIM S) w 15 mX12_planned 2 [(0, .ref (p0)), (1, .int (x1))] [] (S, M) (gX12_planned_2 S fu p0 x1 M) := by
  induction fu with
  | zero => intro p0 x1 M; exact AJ.none
  | succ n ih =>
    intro p0 x1 M
    unfold gX12_planned_2
    refine aj_iload_n (1) dX12_planned_2 rfl rfl ?_
    refine aj_aload_n (0) dX12_planned_3 rfl rfl ?_
    refine aj_getR (TX := TX12) zc12 (by decide) rfl (Or.inl zg_1353) dX12_planned_4 (fun r1 => ?_)
    refine aj_iconst (v := (0 : Int32)) dX12_planned_7 (by decide) ?_
    refine r_iald dX12_planned_8 (fun v2 => ?_)
    refine aj_icmp_ge (tgt := 30) dX12_planned_9 (by decide) (fun h => ?_) (fun h => ?_)
    · refine aj_iconst (v := (0 : Int32)) dX12_planned_30 (by decide) ?_
      refine aj_istore_n (ls2 := [(1, .int ((0 : Int32))), (0, .ref (p0))]) dX12_planned_31 rfl (Nat.le_of_ble_eq_true rfl) rfl ?_
      refine AJ.sub [1, 0] rfl ?_
      exact t_X12_planned_32 w S zfu (p0) ((0 : Int32)) M
    refine aj_aload_n (0) dX12_planned_12 rfl rfl ?_
    refine aj_getR (TX := TX12) zc12 (by decide) rfl (Or.inl zg_1401) dX12_planned_13 (fun r3 => ?_)
    refine aj_iload_n (1) dX12_planned_16 rfl rfl ?_
    refine aj_aload_n (0) dX12_planned_17 rfl rfl ?_
    refine aj_iconst (v := (0 : Int32)) dX12_planned_18 (by decide) ?_
    refine aj_iload_n (1) dX12_planned_19 rfl rfl ?_
    refine rV_IM (as := [.int ((0 : Int32)), .int (x1)]) (c_X12_lengthOf w S _ _ _ _) mv_X12_lengthOf rfl zg_1761 (by decide) (Nat.le_of_ble_eq_true rfl) dX12_planned_20 (fun v4 M5 => ?_)
    refine r_iast dX12_planned_23 (fun M6 => ?_)
    refine aj_iinc (j := 1) (v := (x1 + (1 : Int32))) (ls2 := [(1, .int ((x1 + (1 : Int32)))), (0, .ref (p0))]) dX12_planned_24 rfl rfl (Nat.le_of_ble_eq_true rfl) rfl ?_
    refine aj_goto (tgt := 2) dX12_planned_27 (by decide) ?_
    refine AJ.sub [1, 0] rfl ?_
    exact ih (p0) ((x1 + (1 : Int32))) M6
def gX12_planned (S : List (Nat × Nat)) (p0 : Nat) (M : zM) : Option (Int32 × zM) := gX12_planned_2 S zfu (p0) ((0 : Int32)) M
set_option maxHeartbeats 4000000 in
set_option maxRecDepth 100000 in
theorem c_X12_planned (w : zWd) (S : List (Nat × Nat)) (p0 : Nat) (M : zM) : CT (zfIM S) w 15 mX12_planned [.ref (p0)] (S, M) (gX12_planned S p0 M) := by
  refine CT.of (by decide) (Nat.le_of_ble_eq_true rfl) ?_
  show AJ _ _ _ _ 0 [(0, .ref (p0))] [] _ _
  unfold gX12_planned
  refine aj_iconst (v := (0 : Int32)) dX12_planned_0 (by decide) ?_
  refine aj_istore_n (ls2 := [(1, .int ((0 : Int32))), (0, .ref (p0))]) dX12_planned_1 rfl (Nat.le_of_ble_eq_true rfl) rfl ?_
  refine AJ.sub [1, 0] rfl ?_
  exact t_X12_planned_2 w S zfu (p0) ((0 : Int32)) M
def gX12_plan (S : List (Nat × Nat)) (p0 : Nat) (x1 : Int32) (M : zM) : Option (Int32 × zM) := zpI S M (p0) 12 66 0 ((0 : Int32)) (fun M1 => (if x1 < 0 then some ((-1 : Int32), M1) else (if x1 ≤ (6 : Int32) then zrc S (p0) 12 66 (zb2 (gX12_planned S (p0) M1) (fun v2 M3 => (if v2 < 0 then some (v2, M3) else (if x1 = (6 : Int32) then some (v2, M3) else zgR S M3 (p0) 12 66 3 (fun r4 => zaI S M3 100 (r4) ((0 : Int32)) (fun v5 => (if v5 ≤ x1 then some ((-2 : Int32), M3) else zgR S M3 (p0) 12 66 52 (fun r6 => zaI S M3 100 (r6) (x1) (fun v7 => some (v7, M3)))))))))) else some ((-1 : Int32), M1))))
set_option maxHeartbeats 4000000 in
set_option maxRecDepth 100000 in
theorem c_X12_plan (w : zWd) (S : List (Nat × Nat)) (p0 : Nat) (x1 : Int32) (M : zM) : CT (zfIM S) w 16 mX12_plan [.ref (p0), .int (x1)] (S, M) (gX12_plan S p0 x1 M) := by
  refine CT.of (by decide) (Nat.le_of_ble_eq_true rfl) ?_
  show AJ _ _ _ _ 0 [(0, .ref (p0)), (1, .int (x1))] [] _ _
  unfold gX12_plan
  refine aj_aload_n (0) dX12_plan_0 rfl rfl ?_
  refine aj_iconst (v := (0 : Int32)) dX12_plan_1 (by decide) ?_
  refine r_putI (TX := TX12) zc12 (by decide) rfl rfl rfl rfl (Or.inl zg_1350) dX12_plan_2 (fun M1 => ?_)
  refine aj_iload_n (1) dX12_plan_5 rfl rfl ?_
  refine aj_if_lt (tgt := 15) dX12_plan_6 (by decide) (fun h => ?_) (fun h => ?_)
  · refine aj_iconst (v := (-1 : Int32)) dX12_plan_15 (by decide) ?_
    exact aj_iret dX12_plan_16 rfl rfl rfl
  refine aj_iload_n (1) dX12_plan_9 rfl rfl ?_
  refine aj_bipush (v := (6 : Int32)) dX12_plan_10 (by decide) ?_
  refine aj_icmp_le (tgt := 17) dX12_plan_12 (by decide) (fun h => ?_) (fun h => ?_)
  · refine aj_aload_n (0) dX12_plan_17 rfl rfl ?_
    refine rV_IM (as := []) (c_X12_planned w S _ _) mv_X12_planned rfl zg_1866 (by decide) (Nat.le_of_ble_eq_true rfl) dX12_plan_18 (fun v2 M3 => ?_)
    refine aj_istore_n (ls2 := [(2, .int (v2)), (0, .ref (p0)), (1, .int (x1))]) dX12_plan_21 rfl (Nat.le_of_ble_eq_true rfl) rfl ?_
    refine aj_iload_n (0) dX12_plan_22 rfl rfl ?_
    refine aj_if_lt (tgt := 32) dX12_plan_23 (by decide) (fun h => ?_) (fun h => ?_)
    · refine aj_iload_n (0) dX12_plan_32 rfl rfl ?_
      exact aj_iret dX12_plan_33 rfl rfl rfl
    refine aj_iload_n (2) dX12_plan_26 rfl rfl ?_
    refine aj_bipush (v := (6 : Int32)) dX12_plan_27 (by decide) ?_
    refine aj_icmp_ne (tgt := 34) dX12_plan_29 (by decide) (fun h => ?_) (fun h => ?_)
    · refine aj_iload_n (2) dX12_plan_34 rfl rfl ?_
      refine aj_aload_n (1) dX12_plan_35 rfl rfl ?_
      refine aj_getR (TX := TX12) zc12 (by decide) rfl (Or.inl zg_1353) dX12_plan_36 (fun r4 => ?_)
      refine aj_iconst (v := (0 : Int32)) dX12_plan_39 (by decide) ?_
      refine r_iald dX12_plan_40 (fun v5 => ?_)
      refine aj_icmp_ge (tgt := 53) dX12_plan_41 (by decide) (fun h => ?_) (fun h => ?_)
      · refine aj_bipush (v := (-2 : Int32)) dX12_plan_53 (by decide) ?_
        exact aj_iret dX12_plan_55 rfl rfl rfl
      refine aj_aload_n (1) dX12_plan_44 rfl rfl ?_
      refine aj_getR (TX := TX12) zc12 (by decide) rfl (Or.inl zg_1402) dX12_plan_45 (fun r6 => ?_)
      refine aj_iload_n (2) dX12_plan_48 rfl rfl ?_
      refine r_iald dX12_plan_49 (fun v7 => ?_)
      refine aj_goto (tgt := 55) dX12_plan_50 (by decide) ?_
      exact aj_iret dX12_plan_55 rfl rfl rfl
    refine aj_iload_n (0) dX12_plan_32 rfl rfl ?_
    exact aj_iret dX12_plan_33 rfl rfl rfl
  refine aj_iconst (v := (-1 : Int32)) dX12_plan_15 (by decide) ?_
  exact aj_iret dX12_plan_16 rfl rfl rfl
def gX12_lays_60 (S : List (Nat × Nat)) (rk : Nat → Int32 → Int32 → zM → Option zM) : Nat → Nat → Int32 → Int32 → Int32 → zM → Option zM
  | 0 => fun _ _ _ _ _ => none
  | n + 1 => fun p0 x1 x2 x3 M => zgR S M (p0) 12 66 3 (fun r1 => zaI S M 100 (r1) ((0 : Int32)) (fun v2 => (if v2 ≤ x3 then some M else zgR S M (p0) 12 66 53 (fun r3 => zbI S M (r3) (x1) (x3) (fun M4 => zrc S (p0) 12 66 ((gX12_copies S (p0) ((((23 : Int32) + x1) + (1 : Int32))) (((23 : Int32) + x1)) M4).bind (fun M5 => zgR S M5 (p0) 12 66 36 (fun r6 => zbI S M5 (r6) ((((23 : Int32) + x1) + (1 : Int32))) (x3) (fun M7 => zrc S (p0) 12 66 ((gX12_passes S (p0) ((((23 : Int32) + x1) + (1 : Int32))) ((0 : Int32)) M7).bind (fun M8 => zrc S (p0) 12 66 ((rk (p0) ((x1 + (1 : Int32))) (x2) M8).bind (fun M9 => (gX12_lays_60 S rk  n) (p0) (x1) (x2) ((x3 + (1 : Int32))) M9)))))))))))))
set_option maxHeartbeats 4000000 in
set_option maxRecDepth 100000 in
theorem t_X12_lays_60 (w : zWd) (S : List (Nat × Nat)) (rk : Nat → Int32 → Int32 → zM → Option zM) (n9 : Nat) (hrk : ∀ (p0 : Nat) (x1 : Int32) (x2 : Int32) (M : zM), CT (zfVM S) w (8 + n9) mX12_lays [.ref (p0), .int (x1), .int (x2)] (S, M) (rk p0 x1 x2 M)) (fu : Nat) : ∀ (p0 : Nat) (x1 : Int32) (x2 : Int32) (x3 : Int32) (M : zM), AJ (zfVM S) w (8 + n9 + 1) mX12_lays 60 [(0, .ref (p0)), (1, .int (x1)), (2, .int (x2)), (3, .int (x3))] [] (S, M) (gX12_lays_60 S rk fu p0 x1 x2 x3 M) := by
  induction fu with
  | zero => intro p0 x1 x2 x3 M; exact AJ.none
  | succ n ih =>
    intro p0 x1 x2 x3 M
    unfold gX12_lays_60
    refine aj_iload_n (3) dX12_lays_60 rfl rfl ?_
    refine aj_aload_n (0) dX12_lays_61 rfl rfl ?_
    refine aj_getR (TX := TX12) zc12 (by decide) rfl (Or.inl zg_1353) dX12_lays_62 (fun r1 => ?_)
    refine aj_iconst (v := (0 : Int32)) dX12_lays_65 (by decide) ?_
    refine r_iald dX12_lays_66 (fun v2 => ?_)
    refine aj_icmp_ge (tgt := 128) dX12_lays_67 (by decide) (fun h => ?_) (fun h => ?_)
    · exact aj_vret dX12_lays_128 rfl rfl
    refine aj_aload_n (0) dX12_lays_70 rfl rfl ?_
    refine aj_getR (TX := TX12) zc12 (by decide) rfl (Or.inl zg_1403) dX12_lays_71 (fun r3 => ?_)
    refine aj_iload_n (1) dX12_lays_74 rfl rfl ?_
    refine aj_iload_n (3) dX12_lays_75 rfl rfl ?_
    refine r_iast dX12_lays_76 (fun M4 => ?_)
    refine aj_aload_n (0) dX12_lays_77 rfl rfl ?_
    refine aj_bipush (v := (23 : Int32)) dX12_lays_78 (by decide) ?_
    refine aj_iload_n (1) dX12_lays_80 rfl rfl ?_
    refine aj_iadd dX12_lays_81 ?_
    refine aj_iconst (v := (1 : Int32)) dX12_lays_82 (by decide) ?_
    refine aj_iadd dX12_lays_83 ?_
    refine aj_bipush (v := (23 : Int32)) dX12_lays_84 (by decide) ?_
    refine aj_iload_n (1) dX12_lays_86 rfl rfl ?_
    refine aj_iadd dX12_lays_87 ?_
    refine rV_VM (as := [.int ((((23 : Int32) + x1) + (1 : Int32))), .int (((23 : Int32) + x1))]) (c_X12_copies w S _ _ _ _) mv_X12_copies rfl zg_1779 (by omega) (Nat.le_of_ble_eq_true rfl) dX12_lays_88 (fun M5 => ?_)
    refine aj_aload_n (0) dX12_lays_91 rfl rfl ?_
    refine aj_getR (TX := TX12) zc12 (by decide) rfl (Or.inl zg_1386) dX12_lays_92 (fun r6 => ?_)
    refine aj_bipush (v := (23 : Int32)) dX12_lays_95 (by decide) ?_
    refine aj_iload_n (1) dX12_lays_97 rfl rfl ?_
    refine aj_iadd dX12_lays_98 ?_
    refine aj_iconst (v := (1 : Int32)) dX12_lays_99 (by decide) ?_
    refine aj_iadd dX12_lays_100 ?_
    refine aj_iload_n (3) dX12_lays_101 rfl rfl ?_
    refine r_iast dX12_lays_102 (fun M7 => ?_)
    refine aj_aload_n (0) dX12_lays_103 rfl rfl ?_
    refine aj_bipush (v := (23 : Int32)) dX12_lays_104 (by decide) ?_
    refine aj_iload_n (1) dX12_lays_106 rfl rfl ?_
    refine aj_iadd dX12_lays_107 ?_
    refine aj_iconst (v := (1 : Int32)) dX12_lays_108 (by decide) ?_
    refine aj_iadd dX12_lays_109 ?_
    refine aj_iconst (v := (0 : Int32)) dX12_lays_110 (by decide) ?_
    refine rV_VM (as := [.int ((((23 : Int32) + x1) + (1 : Int32))), .int ((0 : Int32))]) (c_X12_passes w S _ _ _ _) mv_X12_passes rfl zg_1795 (by omega) (Nat.le_of_ble_eq_true rfl) dX12_lays_111 (fun M8 => ?_)
    refine aj_aload_n (0) dX12_lays_114 rfl rfl ?_
    refine aj_iload_n (1) dX12_lays_115 rfl rfl ?_
    refine aj_iconst (v := (1 : Int32)) dX12_lays_116 (by decide) ?_
    refine aj_iadd dX12_lays_117 ?_
    refine aj_iload_n (2) dX12_lays_118 rfl rfl ?_
    refine rV_VM (as := [.int ((x1 + (1 : Int32))), .int (x2)]) (hrk _ _ _ _) mv_X12_lays rfl zg_1882 (by omega) (Nat.le_of_ble_eq_true rfl) dX12_lays_119 (fun M9 => ?_)
    refine aj_iinc (j := 3) (v := (x3 + (1 : Int32))) (ls2 := [(3, .int ((x3 + (1 : Int32)))), (0, .ref (p0)), (1, .int (x1)), (2, .int (x2))]) dX12_lays_122 rfl rfl (Nat.le_of_ble_eq_true rfl) rfl ?_
    refine aj_goto (tgt := 60) dX12_lays_125 (by decide) ?_
    refine AJ.sub [1, 2, 3, 0] rfl ?_
    exact ih (p0) (x1) (x2) ((x3 + (1 : Int32))) M9
def gX12_lays_31 (S : List (Nat × Nat)) (rk : Nat → Int32 → Int32 → zM → Option zM) : Nat → Nat → Int32 → Int32 → zM → Option zM
  | 0 => fun _ _ _ _ => none
  | n + 1 => fun p0 x2 x4 M => (if x2 ≤ x4 then some M else zgR S M (p0) 12 66 54 (fun r1 => zgR S M (p0) 12 66 53 (fun r2 => zaI S M 100 (r2) (x4) (fun v3 => zbI S M (r1) (x4) (v3) (fun M4 => (gX12_lays_31 S rk  n) (p0) (x2) ((x4 + (1 : Int32))) M4)))))
set_option maxHeartbeats 4000000 in
set_option maxRecDepth 100000 in
theorem t_X12_lays_31 (w : zWd) (S : List (Nat × Nat)) (rk : Nat → Int32 → Int32 → zM → Option zM) (n9 : Nat) (hrk : ∀ (p0 : Nat) (x1 : Int32) (x2 : Int32) (M : zM), CT (zfVM S) w (8 + n9) mX12_lays [.ref (p0), .int (x1), .int (x2)] (S, M) (rk p0 x1 x2 M)) (fu : Nat) : ∀ (p0 : Nat) (x2 : Int32) (x4 : Int32) (M : zM), AJ (zfVM S) w (8 + n9 + 1) mX12_lays 31 [(0, .ref (p0)), (2, .int (x2)), (4, .int (x4))] [] (S, M) (gX12_lays_31 S rk fu p0 x2 x4 M) := by
  induction fu with
  | zero => intro p0 x2 x4 M; exact AJ.none
  | succ n ih =>
    intro p0 x2 x4 M
    unfold gX12_lays_31
    refine aj_iload (2) dX12_lays_31 rfl ?_
    refine aj_iload_n (1) dX12_lays_33 rfl rfl ?_
    refine aj_icmp_ge (tgt := 57) dX12_lays_34 (by decide) (fun h => ?_) (fun h => ?_)
    · exact aj_vret dX12_lays_57 rfl rfl
    refine aj_aload_n (0) dX12_lays_37 rfl rfl ?_
    refine aj_getR (TX := TX12) zc12 (by decide) rfl (Or.inl zg_1404) dX12_lays_38 (fun r1 => ?_)
    refine aj_iload (2) dX12_lays_41 rfl ?_
    refine aj_aload_n (0) dX12_lays_43 rfl rfl ?_
    refine aj_getR (TX := TX12) zc12 (by decide) rfl (Or.inl zg_1403) dX12_lays_44 (fun r2 => ?_)
    refine aj_iload (2) dX12_lays_47 rfl ?_
    refine r_iald dX12_lays_49 (fun v3 => ?_)
    refine r_iast dX12_lays_50 (fun M4 => ?_)
    refine aj_iinc (j := 2) (v := (x4 + (1 : Int32))) (ls2 := [(4, .int ((x4 + (1 : Int32)))), (0, .ref (p0)), (2, .int (x2))]) dX12_lays_51 rfl rfl (Nat.le_of_ble_eq_true rfl) rfl ?_
    refine aj_goto (tgt := 31) dX12_lays_54 (by decide) ?_
    refine AJ.sub [1, 2, 0] rfl ?_
    exact ih (p0) (x2) ((x4 + (1 : Int32))) M4
def gX12_laysB (S : List (Nat × Nat)) (rk : Nat → Int32 → Int32 → zM → Option zM) (p0 : Nat) (x1 : Int32) (x2 : Int32) (M : zM) : Option zM := (if x1 = x2 then zrc S (p0) 12 66 ((gX12_doneMany S (p0) (((23 : Int32) + x2)) M).bind (fun v1 => zgI S M (p0) 12 66 55 (fun v2 => (if v2 < v1 then zpI S M (p0) 12 66 55 (v1) (fun M3 => gX12_lays_31 S rk zfu (p0) (x2) ((0 : Int32)) M3) else some M)))) else gX12_lays_60 S rk zfu (p0) (x1) (x2) ((0 : Int32)) M)
set_option maxHeartbeats 4000000 in
set_option maxRecDepth 100000 in
theorem c_X12_laysB (w : zWd) (S : List (Nat × Nat)) (rk : Nat → Int32 → Int32 → zM → Option zM) (n9 : Nat) (hrk : ∀ (p0 : Nat) (x1 : Int32) (x2 : Int32) (M : zM), CT (zfVM S) w (8 + n9) mX12_lays [.ref (p0), .int (x1), .int (x2)] (S, M) (rk p0 x1 x2 M)) (p0 : Nat) (x1 : Int32) (x2 : Int32) (M : zM) : CT (zfVM S) w (8 + n9 + 1) mX12_lays [.ref (p0), .int (x1), .int (x2)] (S, M) (gX12_laysB S rk p0 x1 x2 M) := by
  refine CT.of (by decide) (Nat.le_of_ble_eq_true rfl) ?_
  show AJ _ _ _ _ 0 [(0, .ref (p0)), (1, .int (x1)), (2, .int (x2))] [] _ _
  unfold gX12_laysB
  refine aj_iload_n (1) dX12_lays_0 rfl rfl ?_
  refine aj_iload_n (2) dX12_lays_1 rfl rfl ?_
  refine aj_icmp_ne (tgt := 58) dX12_lays_2 (by decide) (fun h => ?_) (fun h => ?_)
  · refine aj_iconst (v := (0 : Int32)) dX12_lays_58 (by decide) ?_
    refine aj_istore_n (ls2 := [(3, .int ((0 : Int32))), (0, .ref (p0)), (1, .int (x1)), (2, .int (x2))]) dX12_lays_59 rfl (Nat.le_of_ble_eq_true rfl) rfl ?_
    refine AJ.sub [1, 2, 3, 0] rfl ?_
    exact t_X12_lays_60 w S rk n9 hrk zfu (p0) (x1) (x2) ((0 : Int32)) M
  refine aj_aload_n (0) dX12_lays_5 rfl rfl ?_
  refine aj_bipush (v := (23 : Int32)) dX12_lays_6 (by decide) ?_
  refine aj_iload_n (2) dX12_lays_8 rfl rfl ?_
  refine aj_iadd dX12_lays_9 ?_
  refine rV_I (as := [.int (((23 : Int32) + x2))]) (c_X12_doneMany w S _ _ _) mv_X12_doneMany rfl zg_1735 (by omega) (Nat.le_of_ble_eq_true rfl) dX12_lays_10 (fun v1 => ?_)
  refine aj_istore_n (ls2 := [(3, .int (v1)), (0, .ref (p0)), (1, .int (x1)), (2, .int (x2))]) dX12_lays_13 rfl (Nat.le_of_ble_eq_true rfl) rfl ?_
  refine aj_iload_n (0) dX12_lays_14 rfl rfl ?_
  refine aj_aload_n (1) dX12_lays_15 rfl rfl ?_
  refine r_getI (TX := TX12) zc12 (by decide) rfl (Or.inl zg_1405) dX12_lays_16 (fun v2 => ?_)
  refine aj_icmp_gt (tgt := 23) dX12_lays_19 (by decide) (fun h => ?_) (fun h => ?_)
  · refine aj_aload_n (1) dX12_lays_23 rfl rfl ?_
    refine aj_iload_n (0) dX12_lays_24 rfl rfl ?_
    refine r_putI (TX := TX12) zc12 (by decide) rfl rfl rfl rfl (Or.inl zg_1405) dX12_lays_25 (fun M3 => ?_)
    refine aj_iconst (v := (0 : Int32)) dX12_lays_28 (by decide) ?_
    refine aj_istore (ls2 := [(4, .int ((0 : Int32))), (3, .int (v1)), (0, .ref (p0)), (1, .int (x1)), (2, .int (x2))]) dX12_lays_29 (Nat.le_of_ble_eq_true rfl) rfl ?_
    refine AJ.sub [2, 4, 0] rfl ?_
    exact t_X12_lays_31 w S rk n9 hrk zfu (p0) (x2) ((0 : Int32)) M3
  exact aj_vret dX12_lays_22 rfl rfl
def gX12_lays (S : List (Nat × Nat)) : Nat → Nat → Int32 → Int32 → zM → Option zM
  | 0 => fun _ _ _ _ => none
  | n + 1 => fun p0 x1 x2 M => gX12_laysB S (gX12_lays S n) p0 x1 x2 M
theorem c_X12_lays (w : zWd) (S : List (Nat × Nat)) (n : Nat) : ∀ (p0 : Nat) (x1 : Int32) (x2 : Int32) (M : zM), CT (zfVM S) w (8 + n) mX12_lays [.ref (p0), .int (x1), .int (x2)] (S, M) (gX12_lays S n p0 x1 x2 M) := by
  induction n with
  | zero => intro p0 x1 x2 M r h; cases h
  | succ n ih => intro p0 x1 x2 M; exact c_X12_laysB w S _ n ih p0 x1 x2 M
def gX12_best (S : List (Nat × Nat)) (p0 : Nat) (x1 : Int32) (x2 : Int32) (M : zM) : Option (Int32 × zM) := zpI S M (p0) 12 66 0 ((0 : Int32)) (fun M1 => (if x1 < (1 : Int32) then some ((-1 : Int32), M1) else (if (6 : Int32) < x1 then some ((-1 : Int32), M1) else (if x2 < 0 then some ((-1 : Int32), M1) else (if x2 ≤ (6 : Int32) then zgR S M1 (p0) 12 66 3 (fun r2 => zaI S M1 100 (r2) ((0 : Int32)) (fun v3 => (if v3 = 0 then some ((-2 : Int32), M1) else zrc S (p0) 12 66 ((gX12_copies S (p0) ((23 : Int32)) ((0 : Int32)) M1).bind (fun M4 => zpI S M4 (p0) 12 66 55 ((-1 : Int32)) (fun M5 => zrc S (p0) 12 66 ((gX12_lays S 12 (p0) ((0 : Int32)) (x1) M5).bind (fun M6 => (if x2 = (6 : Int32) then zgI S M6 (p0) 12 66 55 (fun v9 => some (v9, M6)) else (if x1 ≤ x2 then some ((-2 : Int32), M6) else zgR S M6 (p0) 12 66 54 (fun r7 => zaI S M6 100 (r7) (x2) (fun v8 => some (v8, M6))))))))))))) else some ((-1 : Int32), M1))))))
set_option maxHeartbeats 4000000 in
set_option maxRecDepth 100000 in
theorem c_X12_best (w : zWd) (S : List (Nat × Nat)) (p0 : Nat) (x1 : Int32) (x2 : Int32) (M : zM) : CT (zfIM S) w 21 mX12_best [.ref (p0), .int (x1), .int (x2)] (S, M) (gX12_best S p0 x1 x2 M) := by
  refine CT.of (by decide) (Nat.le_of_ble_eq_true rfl) ?_
  show AJ _ _ _ _ 0 [(0, .ref (p0)), (1, .int (x1)), (2, .int (x2))] [] _ _
  unfold gX12_best
  refine aj_aload_n (0) dX12_best_0 rfl rfl ?_
  refine aj_iconst (v := (0 : Int32)) dX12_best_1 (by decide) ?_
  refine r_putI (TX := TX12) zc12 (by decide) rfl rfl rfl rfl (Or.inl zg_1350) dX12_best_2 (fun M1 => ?_)
  refine aj_iload_n (1) dX12_best_5 rfl rfl ?_
  refine aj_iconst (v := (1 : Int32)) dX12_best_6 (by decide) ?_
  refine aj_icmp_lt (tgt := 26) dX12_best_7 (by decide) (fun h => ?_) (fun h => ?_)
  · refine aj_iconst (v := (-1 : Int32)) dX12_best_26 (by decide) ?_
    exact aj_iret dX12_best_27 rfl rfl rfl
  refine aj_iload_n (1) dX12_best_10 rfl rfl ?_
  refine aj_bipush (v := (6 : Int32)) dX12_best_11 (by decide) ?_
  refine aj_icmp_gt (tgt := 26) dX12_best_13 (by decide) (fun h => ?_) (fun h => ?_)
  · refine aj_iconst (v := (-1 : Int32)) dX12_best_26 (by decide) ?_
    exact aj_iret dX12_best_27 rfl rfl rfl
  refine aj_iload_n (2) dX12_best_16 rfl rfl ?_
  refine aj_if_lt (tgt := 26) dX12_best_17 (by decide) (fun h => ?_) (fun h => ?_)
  · refine aj_iconst (v := (-1 : Int32)) dX12_best_26 (by decide) ?_
    exact aj_iret dX12_best_27 rfl rfl rfl
  refine aj_iload_n (2) dX12_best_20 rfl rfl ?_
  refine aj_bipush (v := (6 : Int32)) dX12_best_21 (by decide) ?_
  refine aj_icmp_le (tgt := 28) dX12_best_23 (by decide) (fun h => ?_) (fun h => ?_)
  · refine aj_aload_n (0) dX12_best_28 rfl rfl ?_
    refine aj_getR (TX := TX12) zc12 (by decide) rfl (Or.inl zg_1353) dX12_best_29 (fun r2 => ?_)
    refine aj_iconst (v := (0 : Int32)) dX12_best_32 (by decide) ?_
    refine r_iald dX12_best_33 (fun v3 => ?_)
    refine aj_if_ne (tgt := 40) dX12_best_34 (by decide) (fun h => ?_) (fun h => ?_)
    · refine aj_aload_n (0) dX12_best_40 rfl rfl ?_
      refine aj_bipush (v := (23 : Int32)) dX12_best_41 (by decide) ?_
      refine aj_iconst (v := (0 : Int32)) dX12_best_43 (by decide) ?_
      refine rV_VM (as := [.int ((23 : Int32)), .int ((0 : Int32))]) (c_X12_copies w S _ _ _ _) mv_X12_copies rfl zg_1779 (by decide) (Nat.le_of_ble_eq_true rfl) dX12_best_44 (fun M4 => ?_)
      refine aj_aload_n (0) dX12_best_47 rfl rfl ?_
      refine aj_iconst (v := (-1 : Int32)) dX12_best_48 (by decide) ?_
      refine r_putI (TX := TX12) zc12 (by decide) rfl rfl rfl rfl (Or.inl zg_1405) dX12_best_49 (fun M5 => ?_)
      refine aj_aload_n (0) dX12_best_52 rfl rfl ?_
      refine aj_iconst (v := (0 : Int32)) dX12_best_53 (by decide) ?_
      refine aj_iload_n (1) dX12_best_54 rfl rfl ?_
      refine rV_VM (as := [.int ((0 : Int32)), .int (x1)]) (c_X12_lays w S 12 _ _ _ _) mv_X12_lays rfl zg_1882 (by decide) (Nat.le_of_ble_eq_true rfl) dX12_best_55 (fun M6 => ?_)
      refine aj_iload_n (2) dX12_best_58 rfl rfl ?_
      refine aj_bipush (v := (6 : Int32)) dX12_best_59 (by decide) ?_
      refine aj_icmp_ne (tgt := 71) dX12_best_61 (by decide) (fun h => ?_) (fun h => ?_)
      · refine aj_iload_n (2) dX12_best_71 rfl rfl ?_
        refine aj_iload_n (1) dX12_best_72 rfl rfl ?_
        refine aj_icmp_ge (tgt := 85) dX12_best_73 (by decide) (fun h => ?_) (fun h => ?_)
        · refine aj_bipush (v := (-2 : Int32)) dX12_best_85 (by decide) ?_
          exact aj_iret dX12_best_87 rfl rfl rfl
        refine aj_aload_n (0) dX12_best_76 rfl rfl ?_
        refine aj_getR (TX := TX12) zc12 (by decide) rfl (Or.inl zg_1404) dX12_best_77 (fun r7 => ?_)
        refine aj_iload_n (2) dX12_best_80 rfl rfl ?_
        refine r_iald dX12_best_81 (fun v8 => ?_)
        refine aj_goto (tgt := 87) dX12_best_82 (by decide) ?_
        exact aj_iret dX12_best_87 rfl rfl rfl
      refine aj_aload_n (0) dX12_best_64 rfl rfl ?_
      refine r_getI (TX := TX12) zc12 (by decide) rfl (Or.inl zg_1405) dX12_best_65 (fun v9 => ?_)
      refine aj_goto (tgt := 87) dX12_best_68 (by decide) ?_
      exact aj_iret dX12_best_87 rfl rfl rfl
    refine aj_bipush (v := (-2 : Int32)) dX12_best_37 (by decide) ?_
    exact aj_iret dX12_best_39 rfl rfl rfl
  refine aj_iconst (v := (-1 : Int32)) dX12_best_26 (by decide) ?_
  exact aj_iret dX12_best_27 rfl rfl rfl
def gX12_apart (S : List (Nat × Nat)) (x0 : Int32) (x1 : Int32) (M : zM) : Option Int32 := (if x1 ≤ x0 then some ((x0 - x1)) else some ((x1 - x0)))
set_option maxHeartbeats 4000000 in
set_option maxRecDepth 100000 in
theorem c_X12_apart (w : zWd) (S : List (Nat × Nat)) (x0 : Int32) (x1 : Int32) (M : zM) : CT (zfI S M) w 1 mX12_apart [.int (x0), .int (x1)] (S, M) (gX12_apart S x0 x1 M) := by
  refine CT.of (by decide) (Nat.le_of_ble_eq_true rfl) ?_
  show AJ _ _ _ _ 0 [(0, .int (x0)), (1, .int (x1))] [] _ _
  unfold gX12_apart
  refine aj_iload_n (0) dX12_apart_0 rfl rfl ?_
  refine aj_iload_n (1) dX12_apart_1 rfl rfl ?_
  refine aj_icmp_ge (tgt := 11) dX12_apart_2 (by decide) (fun h => ?_) (fun h => ?_)
  · refine aj_iload_n (0) dX12_apart_11 rfl rfl ?_
    refine aj_iload_n (1) dX12_apart_12 rfl rfl ?_
    refine aj_isub dX12_apart_13 ?_
    exact aj_iret dX12_apart_14 rfl rfl rfl
  refine aj_iload_n (1) dX12_apart_5 rfl rfl ?_
  refine aj_iload_n (0) dX12_apart_6 rfl rfl ?_
  refine aj_isub dX12_apart_7 ?_
  refine aj_goto (tgt := 14) dX12_apart_8 (by decide) ?_
  exact aj_iret dX12_apart_14 rfl rfl rfl
def gX12_mannerAt (S : List (Nat × Nat)) (p0 : Nat) (x1 : Int32) (M : zM) : Option Int32 := zgR S M (p0) 12 66 6 (fun r1 => zgR S M (p0) 12 66 43 (fun r2 => zaI S M 100 (r2) (x1) (fun v3 => zaI S M 100 (r1) (v3) (fun v4 => some (v4)))))
set_option maxHeartbeats 4000000 in
set_option maxRecDepth 100000 in
theorem c_X12_mannerAt (w : zWd) (S : List (Nat × Nat)) (p0 : Nat) (x1 : Int32) (M : zM) : CT (zfI S M) w 1 mX12_mannerAt [.ref (p0), .int (x1)] (S, M) (gX12_mannerAt S p0 x1 M) := by
  refine CT.of (by decide) (Nat.le_of_ble_eq_true rfl) ?_
  show AJ _ _ _ _ 0 [(0, .ref (p0)), (1, .int (x1))] [] _ _
  unfold gX12_mannerAt
  refine aj_aload_n (0) dX12_mannerAt_0 rfl rfl ?_
  refine aj_getR (TX := TX12) zc12 (by decide) rfl (Or.inl zg_1356) dX12_mannerAt_1 (fun r1 => ?_)
  refine aj_aload_n (0) dX12_mannerAt_4 rfl rfl ?_
  refine aj_getR (TX := TX12) zc12 (by decide) rfl (Or.inl zg_1393) dX12_mannerAt_5 (fun r2 => ?_)
  refine aj_iload_n (1) dX12_mannerAt_8 rfl rfl ?_
  refine r_iald dX12_mannerAt_9 (fun v3 => ?_)
  refine r_iald dX12_mannerAt_10 (fun v4 => ?_)
  exact aj_iret dX12_mannerAt_11 rfl rfl rfl
def gX12_wantAt_4 (S : List (Nat × Nat)) : Nat → Nat → Int32 → Int32 → Int32 → zM → Option Int32
  | 0 => fun _ _ _ _ _ => none
  | n + 1 => fun p0 x1 x2 x3 M => zgR S M (p0) 12 66 3 (fun r1 => zaI S M 100 (r1) ((1 : Int32)) (fun v2 => (if v2 ≤ x3 then some (x2) else zgR S M (p0) 12 66 56 (fun r3 => zaI S M 100 (r3) (x3) (fun v4 => (if v4 = (-1 : Int32) then (if x2 = (-1 : Int32) then (gX12_wantAt_4 S   n) (p0) (x1) (x3) ((x3 + (1 : Int32))) M else zrc S (p0) 12 66 ((gX12_mannerAt S (p0) (x1) M).bind (fun v5 => (gX12_apart S (x3) (v5) M).bind (fun v6 => zrc S (p0) 12 66 ((gX12_mannerAt S (p0) (x1) M).bind (fun v7 => (gX12_apart S (x2) (v7) M).bind (fun v8 => (if v8 ≤ v6 then (gX12_wantAt_4 S   n) (p0) (x1) (x2) ((x3 + (1 : Int32))) M else (gX12_wantAt_4 S   n) (p0) (x1) (x3) ((x3 + (1 : Int32))) M)))))))) else (gX12_wantAt_4 S   n) (p0) (x1) (x2) ((x3 + (1 : Int32))) M))))))
set_option maxHeartbeats 4000000 in
set_option maxRecDepth 100000 in
theorem t_X12_wantAt_4 (w : zWd) (S : List (Nat × Nat)) (fu : Nat) : ∀ (p0 : Nat) (x1 : Int32) (x2 : Int32) (x3 : Int32) (M : zM), AJ (zfI S M) w 2 mX12_wantAt 4 [(0, .ref (p0)), (1, .int (x1)), (2, .int (x2)), (3, .int (x3))] [] (S, M) (gX12_wantAt_4 S fu p0 x1 x2 x3 M) := by
  induction fu with
  | zero => intro p0 x1 x2 x3 M; exact AJ.none
  | succ n ih =>
    intro p0 x1 x2 x3 M
    unfold gX12_wantAt_4
    refine aj_iload_n (3) dX12_wantAt_4 rfl rfl ?_
    refine aj_aload_n (0) dX12_wantAt_5 rfl rfl ?_
    refine aj_getR (TX := TX12) zc12 (by decide) rfl (Or.inl zg_1353) dX12_wantAt_6 (fun r1 => ?_)
    refine aj_iconst (v := (1 : Int32)) dX12_wantAt_9 (by decide) ?_
    refine r_iald dX12_wantAt_10 (fun v2 => ?_)
    refine aj_icmp_ge (tgt := 61) dX12_wantAt_11 (by decide) (fun h => ?_) (fun h => ?_)
    · refine aj_iload_n (2) dX12_wantAt_61 rfl rfl ?_
      exact aj_iret dX12_wantAt_62 rfl rfl rfl
    refine aj_aload_n (0) dX12_wantAt_14 rfl rfl ?_
    refine aj_getR (TX := TX12) zc12 (by decide) rfl (Or.inl zg_1406) dX12_wantAt_15 (fun r3 => ?_)
    refine aj_iload_n (3) dX12_wantAt_18 rfl rfl ?_
    refine r_iald dX12_wantAt_19 (fun v4 => ?_)
    refine aj_iconst (v := (-1 : Int32)) dX12_wantAt_20 (by decide) ?_
    refine aj_icmp_eq (tgt := 27) dX12_wantAt_21 (by decide) (fun h => ?_) (fun h => ?_)
    · refine aj_iload_n (2) dX12_wantAt_27 rfl rfl ?_
      refine aj_iconst (v := (-1 : Int32)) dX12_wantAt_28 (by decide) ?_
      refine aj_icmp_eq (tgt := 53) dX12_wantAt_29 (by decide) (fun h => ?_) (fun h => ?_)
      · refine aj_iload_n (3) dX12_wantAt_53 rfl rfl ?_
        refine aj_istore_n (ls2 := [(2, .int (x3)), (0, .ref (p0)), (1, .int (x1)), (3, .int (x3))]) dX12_wantAt_54 rfl (Nat.le_of_ble_eq_true rfl) rfl ?_
        refine aj_iinc (j := 3) (v := (x3 + (1 : Int32))) (ls2 := [(3, .int ((x3 + (1 : Int32)))), (2, .int (x3)), (0, .ref (p0)), (1, .int (x1))]) dX12_wantAt_55 rfl rfl (Nat.le_of_ble_eq_true rfl) rfl ?_
        refine aj_goto (tgt := 4) dX12_wantAt_58 (by decide) ?_
        refine AJ.sub [2, 3, 1, 0] rfl ?_
        exact ih (p0) (x1) (x3) ((x3 + (1 : Int32))) M
      refine aj_iload_n (3) dX12_wantAt_32 rfl rfl ?_
      refine aj_aload_n (0) dX12_wantAt_33 rfl rfl ?_
      refine aj_iload_n (1) dX12_wantAt_34 rfl rfl ?_
      refine rV_I (as := [.int (x1)]) (c_X12_mannerAt w S _ _ _) mv_X12_mannerAt rfl zg_1898 (by decide) (Nat.le_of_ble_eq_true rfl) dX12_wantAt_35 (fun v5 => ?_)
      refine rS_I (as := [.int (x3), .int (v5)]) (c_X12_apart w S _ _ _) ms_X12_apart rfl zg_1902 (by decide) (Nat.le_of_ble_eq_true rfl) dX12_wantAt_38 (fun v6 => ?_)
      refine aj_iload_n (2) dX12_wantAt_41 rfl rfl ?_
      refine aj_aload_n (0) dX12_wantAt_42 rfl rfl ?_
      refine aj_iload_n (1) dX12_wantAt_43 rfl rfl ?_
      refine rV_I (as := [.int (x1)]) (c_X12_mannerAt w S _ _ _) mv_X12_mannerAt rfl zg_1898 (by decide) (Nat.le_of_ble_eq_true rfl) dX12_wantAt_44 (fun v7 => ?_)
      refine rS_I (as := [.int (x2), .int (v7)]) (c_X12_apart w S _ _ _) ms_X12_apart rfl zg_1902 (by decide) (Nat.le_of_ble_eq_true rfl) dX12_wantAt_47 (fun v8 => ?_)
      refine aj_icmp_ge (tgt := 55) dX12_wantAt_50 (by decide) (fun h => ?_) (fun h => ?_)
      · refine aj_iinc (j := 3) (v := (x3 + (1 : Int32))) (ls2 := [(3, .int ((x3 + (1 : Int32)))), (0, .ref (p0)), (1, .int (x1)), (2, .int (x2))]) dX12_wantAt_55 rfl rfl (Nat.le_of_ble_eq_true rfl) rfl ?_
        refine aj_goto (tgt := 4) dX12_wantAt_58 (by decide) ?_
        refine AJ.sub [1, 2, 3, 0] rfl ?_
        exact ih (p0) (x1) (x2) ((x3 + (1 : Int32))) M
      refine aj_iload_n (3) dX12_wantAt_53 rfl rfl ?_
      refine aj_istore_n (ls2 := [(2, .int (x3)), (0, .ref (p0)), (1, .int (x1)), (3, .int (x3))]) dX12_wantAt_54 rfl (Nat.le_of_ble_eq_true rfl) rfl ?_
      refine aj_iinc (j := 3) (v := (x3 + (1 : Int32))) (ls2 := [(3, .int ((x3 + (1 : Int32)))), (2, .int (x3)), (0, .ref (p0)), (1, .int (x1))]) dX12_wantAt_55 rfl rfl (Nat.le_of_ble_eq_true rfl) rfl ?_
      refine aj_goto (tgt := 4) dX12_wantAt_58 (by decide) ?_
      refine AJ.sub [2, 3, 1, 0] rfl ?_
      exact ih (p0) (x1) (x3) ((x3 + (1 : Int32))) M
    refine aj_goto (tgt := 55) dX12_wantAt_24 (by decide) ?_
    refine aj_iinc (j := 3) (v := (x3 + (1 : Int32))) (ls2 := [(3, .int ((x3 + (1 : Int32)))), (0, .ref (p0)), (1, .int (x1)), (2, .int (x2))]) dX12_wantAt_55 rfl rfl (Nat.le_of_ble_eq_true rfl) rfl ?_
    refine aj_goto (tgt := 4) dX12_wantAt_58 (by decide) ?_
    refine AJ.sub [1, 2, 3, 0] rfl ?_
    exact ih (p0) (x1) (x2) ((x3 + (1 : Int32))) M
def gX12_wantAt (S : List (Nat × Nat)) (p0 : Nat) (x1 : Int32) (M : zM) : Option Int32 := gX12_wantAt_4 S zfu (p0) (x1) ((-1 : Int32)) ((0 : Int32)) M
set_option maxHeartbeats 4000000 in
set_option maxRecDepth 100000 in
theorem c_X12_wantAt (w : zWd) (S : List (Nat × Nat)) (p0 : Nat) (x1 : Int32) (M : zM) : CT (zfI S M) w 2 mX12_wantAt [.ref (p0), .int (x1)] (S, M) (gX12_wantAt S p0 x1 M) := by
  refine CT.of (by decide) (Nat.le_of_ble_eq_true rfl) ?_
  show AJ _ _ _ _ 0 [(0, .ref (p0)), (1, .int (x1))] [] _ _
  unfold gX12_wantAt
  refine aj_iconst (v := (-1 : Int32)) dX12_wantAt_0 (by decide) ?_
  refine aj_istore_n (ls2 := [(2, .int ((-1 : Int32))), (0, .ref (p0)), (1, .int (x1))]) dX12_wantAt_1 rfl (Nat.le_of_ble_eq_true rfl) rfl ?_
  refine aj_iconst (v := (0 : Int32)) dX12_wantAt_2 (by decide) ?_
  refine aj_istore_n (ls2 := [(3, .int ((0 : Int32))), (2, .int ((-1 : Int32))), (0, .ref (p0)), (1, .int (x1))]) dX12_wantAt_3 rfl (Nat.le_of_ble_eq_true rfl) rfl ?_
  refine AJ.sub [2, 3, 1, 0] rfl ?_
  exact t_X12_wantAt_4 w S zfu (p0) (x1) ((-1 : Int32)) ((0 : Int32)) M
def gX12_closes_82 (S : List (Nat × Nat)) : Nat → Nat → Int32 → Int32 → Int32 → zM → Option zM
  | 0 => fun _ _ _ _ _ => none
  | n + 1 => fun p0 x3 x4 x5 M => (if x5 = 0 then some M else zgR S M (p0) 12 66 56 (fun r1 => zgR S M (p0) 12 66 57 (fun r2 => zaI S M 100 (r2) (x3) (fun v3 => zgR S M (p0) 12 66 43 (fun r4 => zaI S M 100 (r4) (x3) (fun v5 => zbI S M (r1) (v3) (v5) (fun M6 => zgR S M6 (p0) 12 66 57 (fun r7 => zaI S M6 100 (r7) (x3) (fun v8 => (if v8 = x4 then (gX12_closes_82 S   n) (p0) (v8) (x4) ((0 : Int32)) M6 else (gX12_closes_82 S   n) (p0) (v8) (x4) ((1 : Int32)) M6))))))))))
set_option maxHeartbeats 4000000 in
set_option maxRecDepth 100000 in
theorem t_X12_closes_82 (w : zWd) (S : List (Nat × Nat)) (fu : Nat) : ∀ (p0 : Nat) (x3 : Int32) (x4 : Int32) (x5 : Int32) (M : zM), AJ (zfVM S) w 3 mX12_closes 82 [(0, .ref (p0)), (3, .int (x3)), (4, .int (x4)), (5, .int (x5))] [] (S, M) (gX12_closes_82 S fu p0 x3 x4 x5 M) := by
  induction fu with
  | zero => intro p0 x3 x4 x5 M; exact AJ.none
  | succ n ih =>
    intro p0 x3 x4 x5 M
    unfold gX12_closes_82
    refine aj_iload (3) dX12_closes_82 rfl ?_
    refine aj_if_eq (tgt := 127) dX12_closes_84 (by decide) (fun h => ?_) (fun h => ?_)
    · exact aj_vret dX12_closes_127 rfl rfl
    refine aj_aload_n (0) dX12_closes_87 rfl rfl ?_
    refine aj_getR (TX := TX12) zc12 (by decide) rfl (Or.inl zg_1406) dX12_closes_88 (fun r1 => ?_)
    refine aj_aload_n (0) dX12_closes_91 rfl rfl ?_
    refine aj_getR (TX := TX12) zc12 (by decide) rfl (Or.inl zg_1407) dX12_closes_92 (fun r2 => ?_)
    refine aj_iload_n (1) dX12_closes_95 rfl rfl ?_
    refine r_iald dX12_closes_96 (fun v3 => ?_)
    refine aj_aload_n (0) dX12_closes_97 rfl rfl ?_
    refine aj_getR (TX := TX12) zc12 (by decide) rfl (Or.inl zg_1393) dX12_closes_98 (fun r4 => ?_)
    refine aj_iload_n (1) dX12_closes_101 rfl rfl ?_
    refine r_iald dX12_closes_102 (fun v5 => ?_)
    refine r_iast dX12_closes_103 (fun M6 => ?_)
    refine aj_aload_n (0) dX12_closes_104 rfl rfl ?_
    refine aj_getR (TX := TX12) zc12 (by decide) rfl (Or.inl zg_1407) dX12_closes_105 (fun r7 => ?_)
    refine aj_iload_n (1) dX12_closes_108 rfl rfl ?_
    refine r_iald dX12_closes_109 (fun v8 => ?_)
    refine aj_istore_n (ls2 := [(3, .int (v8)), (0, .ref (p0)), (4, .int (x4)), (5, .int (x5))]) dX12_closes_110 rfl (Nat.le_of_ble_eq_true rfl) rfl ?_
    refine aj_iload_n (0) dX12_closes_111 rfl rfl ?_
    refine aj_iload (2) dX12_closes_112 rfl ?_
    refine aj_icmp_eq (tgt := 121) dX12_closes_114 (by decide) (fun h => ?_) (fun h => ?_)
    · refine aj_iconst (v := (0 : Int32)) dX12_closes_121 (by decide) ?_
      refine aj_istore (ls2 := [(5, .int ((0 : Int32))), (3, .int (v8)), (0, .ref (p0)), (4, .int (x4))]) dX12_closes_122 (Nat.le_of_ble_eq_true rfl) rfl ?_
      refine aj_goto (tgt := 82) dX12_closes_124 (by decide) ?_
      refine AJ.sub [2, 1, 3, 0] rfl ?_
      exact ih (p0) (v8) (x4) ((0 : Int32)) M6
    refine aj_iconst (v := (1 : Int32)) dX12_closes_117 (by decide) ?_
    refine aj_goto (tgt := 122) dX12_closes_118 (by decide) ?_
    refine aj_istore (ls2 := [(5, .int ((1 : Int32))), (3, .int (v8)), (0, .ref (p0)), (4, .int (x4))]) dX12_closes_122 (Nat.le_of_ble_eq_true rfl) rfl ?_
    refine aj_goto (tgt := 82) dX12_closes_124 (by decide) ?_
    refine AJ.sub [2, 1, 3, 0] rfl ?_
    exact ih (p0) (v8) (x4) ((1 : Int32)) M6
def gX12_closes_52 (S : List (Nat × Nat)) : Nat → Nat → Int32 → Int32 → zM → Option zM
  | 0 => fun _ _ _ _ => none
  | n + 1 => fun p0 x2 x3 M => (if ((x2 >>> (x3 &&& 31)) &&& (1 : Int32)) = 0 then zgR S M (p0) 12 66 57 (fun r1 => zaI S M 100 (r1) (x3) (fun v2 => (gX12_closes_52 S   n) (p0) ((x2 ||| ((1 : Int32) <<< (x3 &&& 31)))) (v2) M)) else gX12_closes_82 S zfu (p0) (x3) (x3) ((1 : Int32)) M)
set_option maxHeartbeats 4000000 in
set_option maxRecDepth 100000 in
theorem t_X12_closes_52 (w : zWd) (S : List (Nat × Nat)) (fu : Nat) : ∀ (p0 : Nat) (x2 : Int32) (x3 : Int32) (M : zM), AJ (zfVM S) w 3 mX12_closes 52 [(0, .ref (p0)), (2, .int (x2)), (3, .int (x3))] [] (S, M) (gX12_closes_52 S fu p0 x2 x3 M) := by
  induction fu with
  | zero => intro p0 x2 x3 M; exact AJ.none
  | succ n ih =>
    intro p0 x2 x3 M
    unfold gX12_closes_52
    refine aj_iload_n (1) dX12_closes_52 rfl rfl ?_
    refine aj_iload_n (2) dX12_closes_53 rfl rfl ?_
    refine aj_ishr dX12_closes_54 ?_
    refine aj_iconst (v := (1 : Int32)) dX12_closes_55 (by decide) ?_
    refine aj_iand dX12_closes_56 ?_
    refine aj_if_ne (tgt := 76) dX12_closes_57 (by decide) (fun h => ?_) (fun h => ?_)
    · refine aj_iload_n (2) dX12_closes_76 rfl rfl ?_
      refine aj_istore (ls2 := [(4, .int (x3)), (0, .ref (p0)), (2, .int (x2)), (3, .int (x3))]) dX12_closes_77 (Nat.le_of_ble_eq_true rfl) rfl ?_
      refine aj_iconst (v := (1 : Int32)) dX12_closes_79 (by decide) ?_
      refine aj_istore (ls2 := [(5, .int ((1 : Int32))), (4, .int (x3)), (0, .ref (p0)), (2, .int (x2)), (3, .int (x3))]) dX12_closes_80 (Nat.le_of_ble_eq_true rfl) rfl ?_
      refine AJ.sub [2, 4, 1, 0] rfl ?_
      exact t_X12_closes_82 w S zfu (p0) (x3) (x3) ((1 : Int32)) M
    refine aj_iload_n (1) dX12_closes_60 rfl rfl ?_
    refine aj_iconst (v := (1 : Int32)) dX12_closes_61 (by decide) ?_
    refine aj_iload_n (2) dX12_closes_62 rfl rfl ?_
    refine aj_ishl dX12_closes_63 ?_
    refine aj_ior dX12_closes_64 ?_
    refine aj_istore_n (ls2 := [(2, .int ((x2 ||| ((1 : Int32) <<< (x3 &&& 31))))), (0, .ref (p0)), (3, .int (x3))]) dX12_closes_65 rfl (Nat.le_of_ble_eq_true rfl) rfl ?_
    refine aj_aload_n (1) dX12_closes_66 rfl rfl ?_
    refine aj_getR (TX := TX12) zc12 (by decide) rfl (Or.inl zg_1407) dX12_closes_67 (fun r1 => ?_)
    refine aj_iload_n (2) dX12_closes_70 rfl rfl ?_
    refine r_iald dX12_closes_71 (fun v2 => ?_)
    refine aj_istore_n (ls2 := [(3, .int (v2)), (2, .int ((x2 ||| ((1 : Int32) <<< (x3 &&& 31))))), (0, .ref (p0))]) dX12_closes_72 rfl (Nat.le_of_ble_eq_true rfl) rfl ?_
    refine aj_goto (tgt := 52) dX12_closes_73 (by decide) ?_
    refine AJ.sub [2, 1, 0] rfl ?_
    exact ih (p0) ((x2 ||| ((1 : Int32) <<< (x3 &&& 31)))) (v2) M
def gX12_closes_7 (S : List (Nat × Nat)) : Nat → Nat → Int32 → Int32 → Int32 → zM → Option zM
  | 0 => fun _ _ _ _ _ => none
  | n + 1 => fun p0 x2 x3 x4 M => zgR S M (p0) 12 66 3 (fun r1 => zaI S M 100 (r1) ((1 : Int32)) (fun v2 => (if v2 ≤ x4 then gX12_closes_52 S zfu (p0) (x2) (x3) M else zgR S M (p0) 12 66 57 (fun r3 => zgR S M (p0) 12 66 56 (fun r4 => zaI S M 100 (r4) (x4) (fun v5 => (if v5 = (-1 : Int32) then zrc S (p0) 12 66 ((gX12_wantAt S (p0) (x4) M).bind (fun v7 => zbI S M (r3) (x4) (v7) (fun M8 => (gX12_closes_7 S   n) (p0) (x2) (x3) ((x4 + (1 : Int32))) M8))) else zbI S M (r3) (x4) ((-1 : Int32)) (fun M6 => (gX12_closes_7 S   n) (p0) (x2) (x3) ((x4 + (1 : Int32))) M6))))))))
set_option maxHeartbeats 4000000 in
set_option maxRecDepth 100000 in
theorem t_X12_closes_7 (w : zWd) (S : List (Nat × Nat)) (fu : Nat) : ∀ (p0 : Nat) (x2 : Int32) (x3 : Int32) (x4 : Int32) (M : zM), AJ (zfVM S) w 3 mX12_closes 7 [(0, .ref (p0)), (2, .int (x2)), (3, .int (x3)), (4, .int (x4))] [] (S, M) (gX12_closes_7 S fu p0 x2 x3 x4 M) := by
  induction fu with
  | zero => intro p0 x2 x3 x4 M; exact AJ.none
  | succ n ih =>
    intro p0 x2 x3 x4 M
    unfold gX12_closes_7
    refine aj_iload (3) dX12_closes_7 rfl ?_
    refine aj_aload_n (0) dX12_closes_9 rfl rfl ?_
    refine aj_getR (TX := TX12) zc12 (by decide) rfl (Or.inl zg_1353) dX12_closes_10 (fun r1 => ?_)
    refine aj_iconst (v := (1 : Int32)) dX12_closes_13 (by decide) ?_
    refine r_iald dX12_closes_14 (fun v2 => ?_)
    refine aj_icmp_ge (tgt := 52) dX12_closes_15 (by decide) (fun h => ?_) (fun h => ?_)
    · refine AJ.sub [0, 1, 2] rfl ?_
      exact t_X12_closes_52 w S zfu (p0) (x2) (x3) M
    refine aj_aload_n (0) dX12_closes_18 rfl rfl ?_
    refine aj_getR (TX := TX12) zc12 (by decide) rfl (Or.inl zg_1407) dX12_closes_19 (fun r3 => ?_)
    refine aj_iload (3) dX12_closes_22 rfl ?_
    refine aj_aload_n (0) dX12_closes_24 rfl rfl ?_
    refine aj_getR (TX := TX12) zc12 (by decide) rfl (Or.inl zg_1406) dX12_closes_25 (fun r4 => ?_)
    refine aj_iload (3) dX12_closes_28 rfl ?_
    refine r_iald dX12_closes_30 (fun v5 => ?_)
    refine aj_iconst (v := (-1 : Int32)) dX12_closes_31 (by decide) ?_
    refine aj_icmp_ne (tgt := 44) dX12_closes_32 (by decide) (fun h => ?_) (fun h => ?_)
    · refine aj_iconst (v := (-1 : Int32)) dX12_closes_44 (by decide) ?_
      refine r_iast dX12_closes_45 (fun M6 => ?_)
      refine aj_iinc (j := 3) (v := (x4 + (1 : Int32))) (ls2 := [(4, .int ((x4 + (1 : Int32)))), (0, .ref (p0)), (2, .int (x2)), (3, .int (x3))]) dX12_closes_46 rfl rfl (Nat.le_of_ble_eq_true rfl) rfl ?_
      refine aj_goto (tgt := 7) dX12_closes_49 (by decide) ?_
      refine AJ.sub [1, 2, 3, 0] rfl ?_
      exact ih (p0) (x2) (x3) ((x4 + (1 : Int32))) M6
    refine aj_aload_n (0) dX12_closes_35 rfl rfl ?_
    refine aj_iload (3) dX12_closes_36 rfl ?_
    refine rV_I (as := [.int (x4)]) (c_X12_wantAt w S _ _ _) mv_X12_wantAt rfl zg_1894 (by decide) (Nat.le_of_ble_eq_true rfl) dX12_closes_38 (fun v7 => ?_)
    refine aj_goto (tgt := 45) dX12_closes_41 (by decide) ?_
    refine r_iast dX12_closes_45 (fun M8 => ?_)
    refine aj_iinc (j := 3) (v := (x4 + (1 : Int32))) (ls2 := [(4, .int ((x4 + (1 : Int32)))), (0, .ref (p0)), (2, .int (x2)), (3, .int (x3))]) dX12_closes_46 rfl rfl (Nat.le_of_ble_eq_true rfl) rfl ?_
    refine aj_goto (tgt := 7) dX12_closes_49 (by decide) ?_
    refine AJ.sub [1, 2, 3, 0] rfl ?_
    exact ih (p0) (x2) (x3) ((x4 + (1 : Int32))) M8
def gX12_closes (S : List (Nat × Nat)) (p0 : Nat) (x1 : Int32) (M : zM) : Option zM := gX12_closes_7 S zfu (p0) ((0 : Int32)) (x1) ((0 : Int32)) M
set_option maxHeartbeats 4000000 in
set_option maxRecDepth 100000 in
theorem c_X12_closes (w : zWd) (S : List (Nat × Nat)) (p0 : Nat) (x1 : Int32) (M : zM) : CT (zfVM S) w 3 mX12_closes [.ref (p0), .int (x1)] (S, M) (gX12_closes S p0 x1 M) := by
  refine CT.of (by decide) (Nat.le_of_ble_eq_true rfl) ?_
  show AJ _ _ _ _ 0 [(0, .ref (p0)), (1, .int (x1))] [] _ _
  unfold gX12_closes
  refine aj_iconst (v := (0 : Int32)) dX12_closes_0 (by decide) ?_
  refine aj_istore_n (ls2 := [(2, .int ((0 : Int32))), (0, .ref (p0)), (1, .int (x1))]) dX12_closes_1 rfl (Nat.le_of_ble_eq_true rfl) rfl ?_
  refine aj_iload_n (2) dX12_closes_2 rfl rfl ?_
  refine aj_istore_n (ls2 := [(3, .int (x1)), (2, .int ((0 : Int32))), (0, .ref (p0)), (1, .int (x1))]) dX12_closes_3 rfl (Nat.le_of_ble_eq_true rfl) rfl ?_
  refine aj_iconst (v := (0 : Int32)) dX12_closes_4 (by decide) ?_
  refine aj_istore (ls2 := [(4, .int ((0 : Int32))), (3, .int (x1)), (2, .int ((0 : Int32))), (0, .ref (p0)), (1, .int (x1))]) dX12_closes_5 (Nat.le_of_ble_eq_true rfl) rfl ?_
  refine AJ.sub [3, 2, 1, 0] rfl ?_
  exact t_X12_closes_7 w S zfu (p0) ((0 : Int32)) (x1) ((0 : Int32)) M
def gX12_fair_48 (S : List (Nat × Nat)) (k38 : Nat → Int32 → Int32 → zM → Option (Int32 × zM)) : Nat → Nat → Int32 → Int32 → zM → Option (Int32 × zM)
  | 0 => fun _ _ _ _ => none
  | n + 1 => fun p0 x1 x2 M => zgR S M (p0) 12 66 56 (fun r1 => zaI S M 100 (r1) (x2) (fun v2 => (if v2 = (-1 : Int32) then zrc S (p0) 12 66 ((gX12_closes S (p0) (x2) M).bind (fun M3 => (gX12_fair_48 S  k38 n) (p0) (x1) (x2) M3)) else k38 (p0) (x1) ((x2 + (1 : Int32))) M)))
set_option maxHeartbeats 4000000 in
set_option maxRecDepth 100000 in
theorem t_X12_fair_48 (w : zWd) (S : List (Nat × Nat)) (k38 : Nat → Int32 → Int32 → zM → Option (Int32 × zM)) (hk38 : ∀ (p0 : Nat) (x1 : Int32) (x2 : Int32) (M : zM), AJ (zfIM S) w 4 mX12_fair 38 [(0, .ref (p0)), (1, .int (x1)), (2, .int (x2))] [] (S, M) (k38 p0 x1 x2 M)) (fu : Nat) : ∀ (p0 : Nat) (x1 : Int32) (x2 : Int32) (M : zM), AJ (zfIM S) w 4 mX12_fair 48 [(0, .ref (p0)), (1, .int (x1)), (2, .int (x2))] [] (S, M) (gX12_fair_48 S k38 fu p0 x1 x2 M) := by
  induction fu with
  | zero => intro p0 x1 x2 M; exact AJ.none
  | succ n ih =>
    intro p0 x1 x2 M
    unfold gX12_fair_48
    refine aj_aload_n (0) dX12_fair_48 rfl rfl ?_
    refine aj_getR (TX := TX12) zc12 (by decide) rfl (Or.inl zg_1406) dX12_fair_49 (fun r1 => ?_)
    refine aj_iload_n (2) dX12_fair_52 rfl rfl ?_
    refine r_iald dX12_fair_53 (fun v2 => ?_)
    refine aj_iconst (v := (-1 : Int32)) dX12_fair_54 (by decide) ?_
    refine aj_icmp_ne (tgt := 66) dX12_fair_55 (by decide) (fun h => ?_) (fun h => ?_)
    · refine aj_iinc (j := 2) (v := (x2 + (1 : Int32))) (ls2 := [(2, .int ((x2 + (1 : Int32)))), (0, .ref (p0)), (1, .int (x1))]) dX12_fair_66 rfl rfl (Nat.le_of_ble_eq_true rfl) rfl ?_
      refine aj_goto (tgt := 38) dX12_fair_69 (by decide) ?_
      refine AJ.sub [1, 2, 0] rfl ?_
      exact hk38 (p0) (x1) ((x2 + (1 : Int32))) M
    refine aj_aload_n (0) dX12_fair_58 rfl rfl ?_
    refine aj_iload_n (2) dX12_fair_59 rfl rfl ?_
    refine rV_VM (as := [.int (x2)]) (c_X12_closes w S _ _ _) mv_X12_closes rfl zg_1890 (by decide) (Nat.le_of_ble_eq_true rfl) dX12_fair_60 (fun M3 => ?_)
    refine aj_goto (tgt := 48) dX12_fair_63 (by decide) ?_
    refine AJ.sub [0, 1, 2] rfl ?_
    exact ih (p0) (x1) (x2) M3
def gX12_fair_38 (S : List (Nat × Nat)) : Nat → Nat → Int32 → Int32 → zM → Option (Int32 × zM)
  | 0 => fun _ _ _ _ => none
  | n + 1 => fun p0 x1 x2 M => zgR S M (p0) 12 66 3 (fun r1 => zaI S M 100 (r1) ((1 : Int32)) (fun v2 => (if v2 ≤ x2 then zgR S M (p0) 12 66 56 (fun r3 => zaI S M 100 (r3) (x1) (fun v4 => some (v4, M))) else gX12_fair_48 S (gX12_fair_38 S   n) zfu (p0) (x1) (x2) M)))
set_option maxHeartbeats 4000000 in
set_option maxRecDepth 100000 in
theorem t_X12_fair_38 (w : zWd) (S : List (Nat × Nat)) (fu : Nat) : ∀ (p0 : Nat) (x1 : Int32) (x2 : Int32) (M : zM), AJ (zfIM S) w 4 mX12_fair 38 [(0, .ref (p0)), (1, .int (x1)), (2, .int (x2))] [] (S, M) (gX12_fair_38 S fu p0 x1 x2 M) := by
  induction fu with
  | zero => intro p0 x1 x2 M; exact AJ.none
  | succ n ih =>
    intro p0 x1 x2 M
    unfold gX12_fair_38
    refine aj_iload_n (2) dX12_fair_38 rfl rfl ?_
    refine aj_aload_n (0) dX12_fair_39 rfl rfl ?_
    refine aj_getR (TX := TX12) zc12 (by decide) rfl (Or.inl zg_1353) dX12_fair_40 (fun r1 => ?_)
    refine aj_iconst (v := (1 : Int32)) dX12_fair_43 (by decide) ?_
    refine r_iald dX12_fair_44 (fun v2 => ?_)
    refine aj_icmp_ge (tgt := 72) dX12_fair_45 (by decide) (fun h => ?_) (fun h => ?_)
    · refine aj_aload_n (0) dX12_fair_72 rfl rfl ?_
      refine aj_getR (TX := TX12) zc12 (by decide) rfl (Or.inl zg_1406) dX12_fair_73 (fun r3 => ?_)
      refine aj_iload_n (1) dX12_fair_76 rfl rfl ?_
      refine r_iald dX12_fair_77 (fun v4 => ?_)
      exact aj_iret dX12_fair_78 rfl rfl rfl
    refine AJ.sub [0, 1, 2] rfl ?_
    exact t_X12_fair_48 w S (gX12_fair_38 S   n) ih zfu (p0) (x1) (x2) M
def gX12_fair_17 (S : List (Nat × Nat)) : Nat → Nat → Int32 → Int32 → zM → Option (Int32 × zM)
  | 0 => fun _ _ _ _ => none
  | n + 1 => fun p0 x1 x2 M => (if (12 : Int32) ≤ x2 then gX12_fair_38 S zfu (p0) (x1) ((0 : Int32)) M else zgR S M (p0) 12 66 56 (fun r1 => zbI S M (r1) (x2) ((-1 : Int32)) (fun M2 => (gX12_fair_17 S   n) (p0) (x1) ((x2 + (1 : Int32))) M2)))
set_option maxHeartbeats 4000000 in
set_option maxRecDepth 100000 in
theorem t_X12_fair_17 (w : zWd) (S : List (Nat × Nat)) (fu : Nat) : ∀ (p0 : Nat) (x1 : Int32) (x2 : Int32) (M : zM), AJ (zfIM S) w 4 mX12_fair 17 [(0, .ref (p0)), (1, .int (x1)), (2, .int (x2))] [] (S, M) (gX12_fair_17 S fu p0 x1 x2 M) := by
  induction fu with
  | zero => intro p0 x1 x2 M; exact AJ.none
  | succ n ih =>
    intro p0 x1 x2 M
    unfold gX12_fair_17
    refine aj_iload_n (2) dX12_fair_17 rfl rfl ?_
    refine aj_bipush (v := (12 : Int32)) dX12_fair_18 (by decide) ?_
    refine aj_icmp_ge (tgt := 36) dX12_fair_20 (by decide) (fun h => ?_) (fun h => ?_)
    · refine aj_iconst (v := (0 : Int32)) dX12_fair_36 (by decide) ?_
      refine aj_istore_n (ls2 := [(2, .int ((0 : Int32))), (0, .ref (p0)), (1, .int (x1))]) dX12_fair_37 rfl (Nat.le_of_ble_eq_true rfl) rfl ?_
      refine AJ.sub [1, 2, 0] rfl ?_
      exact t_X12_fair_38 w S zfu (p0) (x1) ((0 : Int32)) M
    refine aj_aload_n (0) dX12_fair_23 rfl rfl ?_
    refine aj_getR (TX := TX12) zc12 (by decide) rfl (Or.inl zg_1406) dX12_fair_24 (fun r1 => ?_)
    refine aj_iload_n (2) dX12_fair_27 rfl rfl ?_
    refine aj_iconst (v := (-1 : Int32)) dX12_fair_28 (by decide) ?_
    refine r_iast dX12_fair_29 (fun M2 => ?_)
    refine aj_iinc (j := 2) (v := (x2 + (1 : Int32))) (ls2 := [(2, .int ((x2 + (1 : Int32)))), (0, .ref (p0)), (1, .int (x1))]) dX12_fair_30 rfl rfl (Nat.le_of_ble_eq_true rfl) rfl ?_
    refine aj_goto (tgt := 17) dX12_fair_33 (by decide) ?_
    refine AJ.sub [1, 2, 0] rfl ?_
    exact ih (p0) (x1) ((x2 + (1 : Int32))) M2
def gX12_fair (S : List (Nat × Nat)) (p0 : Nat) (x1 : Int32) (M : zM) : Option (Int32 × zM) := zpI S M (p0) 12 66 0 ((0 : Int32)) (fun M1 => zrc S (p0) 12 66 ((gX12_isPlace S (p0) (x1) M1).bind (fun v2 => (if v2 = 0 then some ((-1 : Int32), M1) else gX12_fair_17 S zfu (p0) (x1) ((0 : Int32)) M1))))
set_option maxHeartbeats 4000000 in
set_option maxRecDepth 100000 in
theorem c_X12_fair (w : zWd) (S : List (Nat × Nat)) (p0 : Nat) (x1 : Int32) (M : zM) : CT (zfIM S) w 4 mX12_fair [.ref (p0), .int (x1)] (S, M) (gX12_fair S p0 x1 M) := by
  refine CT.of (by decide) (Nat.le_of_ble_eq_true rfl) ?_
  show AJ _ _ _ _ 0 [(0, .ref (p0)), (1, .int (x1))] [] _ _
  unfold gX12_fair
  refine aj_aload_n (0) dX12_fair_0 rfl rfl ?_
  refine aj_iconst (v := (0 : Int32)) dX12_fair_1 (by decide) ?_
  refine r_putI (TX := TX12) zc12 (by decide) rfl rfl rfl rfl (Or.inl zg_1350) dX12_fair_2 (fun M1 => ?_)
  refine aj_aload_n (0) dX12_fair_5 rfl rfl ?_
  refine aj_iload_n (1) dX12_fair_6 rfl rfl ?_
  refine rV_I (as := [.int (x1)]) (c_X12_isPlace w S _ _ _) mv_X12_isPlace rfl zg_1706 (by decide) (Nat.le_of_ble_eq_true rfl) dX12_fair_7 (fun v2 => ?_)
  refine aj_if_ne (tgt := 15) dX12_fair_10 (by decide) (fun h => ?_) (fun h => ?_)
  · refine aj_iconst (v := (0 : Int32)) dX12_fair_15 (by decide) ?_
    refine aj_istore_n (ls2 := [(2, .int ((0 : Int32))), (0, .ref (p0)), (1, .int (x1))]) dX12_fair_16 rfl (Nat.le_of_ble_eq_true rfl) rfl ?_
    refine AJ.sub [1, 2, 0] rfl ?_
    exact t_X12_fair_17 w S zfu (p0) (x1) ((0 : Int32)) M1
  refine aj_iconst (v := (-1 : Int32)) dX12_fair_13 (by decide) ?_
  exact aj_iret dX12_fair_14 rfl rfl rfl
def gX12_pairs_21 (S : List (Nat × Nat)) (k9 : Nat → Int32 → Int32 → zM → Option (Int32 × zM)) : Nat → Nat → Int32 → Int32 → Int32 → zM → Option (Int32 × zM)
  | 0 => fun _ _ _ _ _ => none
  | n + 1 => fun p0 x1 x2 x3 M => (if x2 ≤ x3 then k9 (p0) (x1) ((x2 + (1 : Int32))) M else zrc S (p0) 12 66 ((gX12_mannerAt S (p0) (x2) M).bind (fun v1 => (gX12_apart S (x3) (v1) M).bind (fun v2 => zrc S (p0) 12 66 ((gX12_mannerAt S (p0) (x2) M).bind (fun v3 => (gX12_apart S (x2) (v3) M).bind (fun v4 => (if v4 ≤ v2 then (gX12_pairs_21 S  k9 n) (p0) ((x1 + (0 : Int32))) (x2) ((x3 + (1 : Int32))) M else zrc S (p0) 12 66 ((gX12_mannerAt S (p0) (x3) M).bind (fun v5 => (gX12_apart S (x2) (v5) M).bind (fun v6 => zrc S (p0) 12 66 ((gX12_mannerAt S (p0) (x3) M).bind (fun v7 => (gX12_apart S (x3) (v7) M).bind (fun v8 => (if v8 ≤ v6 then (gX12_pairs_21 S  k9 n) (p0) ((x1 + (0 : Int32))) (x2) ((x3 + (1 : Int32))) M else (gX12_pairs_21 S  k9 n) (p0) ((x1 + (1 : Int32))) (x2) ((x3 + (1 : Int32))) M)))))))))))))))
set_option maxHeartbeats 4000000 in
set_option maxRecDepth 100000 in
theorem t_X12_pairs_21 (w : zWd) (S : List (Nat × Nat)) (k9 : Nat → Int32 → Int32 → zM → Option (Int32 × zM)) (hk9 : ∀ (p0 : Nat) (x1 : Int32) (x2 : Int32) (M : zM), AJ (zfIM S) w 2 mX12_pairs 9 [(0, .ref (p0)), (1, .int (x1)), (2, .int (x2))] [] (S, M) (k9 p0 x1 x2 M)) (fu : Nat) : ∀ (p0 : Nat) (x1 : Int32) (x2 : Int32) (x3 : Int32) (M : zM), AJ (zfIM S) w 2 mX12_pairs 21 [(0, .ref (p0)), (1, .int (x1)), (2, .int (x2)), (3, .int (x3))] [] (S, M) (gX12_pairs_21 S k9 fu p0 x1 x2 x3 M) := by
  induction fu with
  | zero => intro p0 x1 x2 x3 M; exact AJ.none
  | succ n ih =>
    intro p0 x1 x2 x3 M
    unfold gX12_pairs_21
    refine aj_iload_n (3) dX12_pairs_21 rfl rfl ?_
    refine aj_iload_n (2) dX12_pairs_22 rfl rfl ?_
    refine aj_icmp_ge (tgt := 82) dX12_pairs_23 (by decide) (fun h => ?_) (fun h => ?_)
    · refine aj_iinc (j := 2) (v := (x2 + (1 : Int32))) (ls2 := [(2, .int ((x2 + (1 : Int32)))), (0, .ref (p0)), (1, .int (x1)), (3, .int (x3))]) dX12_pairs_82 rfl rfl (Nat.le_of_ble_eq_true rfl) rfl ?_
      refine aj_goto (tgt := 9) dX12_pairs_85 (by decide) ?_
      refine AJ.sub [1, 2, 0] rfl ?_
      exact hk9 (p0) (x1) ((x2 + (1 : Int32))) M
    refine aj_iload_n (1) dX12_pairs_26 rfl rfl ?_
    refine aj_iload_n (3) dX12_pairs_27 rfl rfl ?_
    refine aj_aload_n (0) dX12_pairs_28 rfl rfl ?_
    refine aj_iload_n (2) dX12_pairs_29 rfl rfl ?_
    refine rV_I (as := [.int (x2)]) (c_X12_mannerAt w S _ _ _) mv_X12_mannerAt rfl zg_1898 (by decide) (Nat.le_of_ble_eq_true rfl) dX12_pairs_30 (fun v1 => ?_)
    refine rS_I (as := [.int (x3), .int (v1)]) (c_X12_apart w S _ _ _) ms_X12_apart rfl zg_1902 (by decide) (Nat.le_of_ble_eq_true rfl) dX12_pairs_33 (fun v2 => ?_)
    refine aj_iload_n (2) dX12_pairs_36 rfl rfl ?_
    refine aj_aload_n (0) dX12_pairs_37 rfl rfl ?_
    refine aj_iload_n (2) dX12_pairs_38 rfl rfl ?_
    refine rV_I (as := [.int (x2)]) (c_X12_mannerAt w S _ _ _) mv_X12_mannerAt rfl zg_1898 (by decide) (Nat.le_of_ble_eq_true rfl) dX12_pairs_39 (fun v3 => ?_)
    refine rS_I (as := [.int (x2), .int (v3)]) (c_X12_apart w S _ _ _) ms_X12_apart rfl zg_1902 (by decide) (Nat.le_of_ble_eq_true rfl) dX12_pairs_42 (fun v4 => ?_)
    refine aj_icmp_ge (tgt := 73) dX12_pairs_45 (by decide) (fun h => ?_) (fun h => ?_)
    · refine aj_iconst (v := (0 : Int32)) dX12_pairs_73 (by decide) ?_
      refine aj_iadd dX12_pairs_74 ?_
      refine aj_istore_n (ls2 := [(1, .int ((x1 + (0 : Int32)))), (0, .ref (p0)), (2, .int (x2)), (3, .int (x3))]) dX12_pairs_75 rfl (Nat.le_of_ble_eq_true rfl) rfl ?_
      refine aj_iinc (j := 3) (v := (x3 + (1 : Int32))) (ls2 := [(3, .int ((x3 + (1 : Int32)))), (1, .int ((x1 + (0 : Int32)))), (0, .ref (p0)), (2, .int (x2))]) dX12_pairs_76 rfl rfl (Nat.le_of_ble_eq_true rfl) rfl ?_
      refine aj_goto (tgt := 21) dX12_pairs_79 (by decide) ?_
      refine AJ.sub [2, 1, 3, 0] rfl ?_
      exact ih (p0) ((x1 + (0 : Int32))) (x2) ((x3 + (1 : Int32))) M
    refine aj_iload_n (2) dX12_pairs_48 rfl rfl ?_
    refine aj_aload_n (0) dX12_pairs_49 rfl rfl ?_
    refine aj_iload_n (3) dX12_pairs_50 rfl rfl ?_
    refine rV_I (as := [.int (x3)]) (c_X12_mannerAt w S _ _ _) mv_X12_mannerAt rfl zg_1898 (by decide) (Nat.le_of_ble_eq_true rfl) dX12_pairs_51 (fun v5 => ?_)
    refine rS_I (as := [.int (x2), .int (v5)]) (c_X12_apart w S _ _ _) ms_X12_apart rfl zg_1902 (by decide) (Nat.le_of_ble_eq_true rfl) dX12_pairs_54 (fun v6 => ?_)
    refine aj_iload_n (3) dX12_pairs_57 rfl rfl ?_
    refine aj_aload_n (0) dX12_pairs_58 rfl rfl ?_
    refine aj_iload_n (3) dX12_pairs_59 rfl rfl ?_
    refine rV_I (as := [.int (x3)]) (c_X12_mannerAt w S _ _ _) mv_X12_mannerAt rfl zg_1898 (by decide) (Nat.le_of_ble_eq_true rfl) dX12_pairs_60 (fun v7 => ?_)
    refine rS_I (as := [.int (x3), .int (v7)]) (c_X12_apart w S _ _ _) ms_X12_apart rfl zg_1902 (by decide) (Nat.le_of_ble_eq_true rfl) dX12_pairs_63 (fun v8 => ?_)
    refine aj_icmp_ge (tgt := 73) dX12_pairs_66 (by decide) (fun h => ?_) (fun h => ?_)
    · refine aj_iconst (v := (0 : Int32)) dX12_pairs_73 (by decide) ?_
      refine aj_iadd dX12_pairs_74 ?_
      refine aj_istore_n (ls2 := [(1, .int ((x1 + (0 : Int32)))), (0, .ref (p0)), (2, .int (x2)), (3, .int (x3))]) dX12_pairs_75 rfl (Nat.le_of_ble_eq_true rfl) rfl ?_
      refine aj_iinc (j := 3) (v := (x3 + (1 : Int32))) (ls2 := [(3, .int ((x3 + (1 : Int32)))), (1, .int ((x1 + (0 : Int32)))), (0, .ref (p0)), (2, .int (x2))]) dX12_pairs_76 rfl rfl (Nat.le_of_ble_eq_true rfl) rfl ?_
      refine aj_goto (tgt := 21) dX12_pairs_79 (by decide) ?_
      refine AJ.sub [2, 1, 3, 0] rfl ?_
      exact ih (p0) ((x1 + (0 : Int32))) (x2) ((x3 + (1 : Int32))) M
    refine aj_iconst (v := (1 : Int32)) dX12_pairs_69 (by decide) ?_
    refine aj_goto (tgt := 74) dX12_pairs_70 (by decide) ?_
    refine aj_iadd dX12_pairs_74 ?_
    refine aj_istore_n (ls2 := [(1, .int ((x1 + (1 : Int32)))), (0, .ref (p0)), (2, .int (x2)), (3, .int (x3))]) dX12_pairs_75 rfl (Nat.le_of_ble_eq_true rfl) rfl ?_
    refine aj_iinc (j := 3) (v := (x3 + (1 : Int32))) (ls2 := [(3, .int ((x3 + (1 : Int32)))), (1, .int ((x1 + (1 : Int32)))), (0, .ref (p0)), (2, .int (x2))]) dX12_pairs_76 rfl rfl (Nat.le_of_ble_eq_true rfl) rfl ?_
    refine aj_goto (tgt := 21) dX12_pairs_79 (by decide) ?_
    refine AJ.sub [2, 1, 3, 0] rfl ?_
    exact ih (p0) ((x1 + (1 : Int32))) (x2) ((x3 + (1 : Int32))) M
def gX12_pairs_9 (S : List (Nat × Nat)) : Nat → Nat → Int32 → Int32 → zM → Option (Int32 × zM)
  | 0 => fun _ _ _ _ => none
  | n + 1 => fun p0 x1 x2 M => zgR S M (p0) 12 66 3 (fun r1 => zaI S M 100 (r1) ((1 : Int32)) (fun v2 => (if v2 ≤ x2 then some (x1, M) else gX12_pairs_21 S (gX12_pairs_9 S   n) zfu (p0) (x1) (x2) ((0 : Int32)) M)))
set_option maxHeartbeats 4000000 in
set_option maxRecDepth 100000 in
theorem t_X12_pairs_9 (w : zWd) (S : List (Nat × Nat)) (fu : Nat) : ∀ (p0 : Nat) (x1 : Int32) (x2 : Int32) (M : zM), AJ (zfIM S) w 2 mX12_pairs 9 [(0, .ref (p0)), (1, .int (x1)), (2, .int (x2))] [] (S, M) (gX12_pairs_9 S fu p0 x1 x2 M) := by
  induction fu with
  | zero => intro p0 x1 x2 M; exact AJ.none
  | succ n ih =>
    intro p0 x1 x2 M
    unfold gX12_pairs_9
    refine aj_iload_n (2) dX12_pairs_9 rfl rfl ?_
    refine aj_aload_n (0) dX12_pairs_10 rfl rfl ?_
    refine aj_getR (TX := TX12) zc12 (by decide) rfl (Or.inl zg_1353) dX12_pairs_11 (fun r1 => ?_)
    refine aj_iconst (v := (1 : Int32)) dX12_pairs_14 (by decide) ?_
    refine r_iald dX12_pairs_15 (fun v2 => ?_)
    refine aj_icmp_ge (tgt := 88) dX12_pairs_16 (by decide) (fun h => ?_) (fun h => ?_)
    · refine aj_iload_n (1) dX12_pairs_88 rfl rfl ?_
      exact aj_iret dX12_pairs_89 rfl rfl rfl
    refine aj_iconst (v := (0 : Int32)) dX12_pairs_19 (by decide) ?_
    refine aj_istore_n (ls2 := [(3, .int ((0 : Int32))), (0, .ref (p0)), (1, .int (x1)), (2, .int (x2))]) dX12_pairs_20 rfl (Nat.le_of_ble_eq_true rfl) rfl ?_
    refine AJ.sub [1, 2, 3, 0] rfl ?_
    exact t_X12_pairs_21 w S (gX12_pairs_9 S   n) ih zfu (p0) (x1) (x2) ((0 : Int32)) M
def gX12_pairs (S : List (Nat × Nat)) (p0 : Nat) (M : zM) : Option (Int32 × zM) := zpI S M (p0) 12 66 0 ((0 : Int32)) (fun M1 => gX12_pairs_9 S zfu (p0) ((0 : Int32)) ((0 : Int32)) M1)
set_option maxHeartbeats 4000000 in
set_option maxRecDepth 100000 in
theorem c_X12_pairs (w : zWd) (S : List (Nat × Nat)) (p0 : Nat) (M : zM) : CT (zfIM S) w 2 mX12_pairs [.ref (p0)] (S, M) (gX12_pairs S p0 M) := by
  refine CT.of (by decide) (Nat.le_of_ble_eq_true rfl) ?_
  show AJ _ _ _ _ 0 [(0, .ref (p0))] [] _ _
  unfold gX12_pairs
  refine aj_aload_n (0) dX12_pairs_0 rfl rfl ?_
  refine aj_iconst (v := (0 : Int32)) dX12_pairs_1 (by decide) ?_
  refine r_putI (TX := TX12) zc12 (by decide) rfl rfl rfl rfl (Or.inl zg_1350) dX12_pairs_2 (fun M1 => ?_)
  refine aj_iconst (v := (0 : Int32)) dX12_pairs_5 (by decide) ?_
  refine aj_istore_n (ls2 := [(1, .int ((0 : Int32))), (0, .ref (p0))]) dX12_pairs_6 rfl (Nat.le_of_ble_eq_true rfl) rfl ?_
  refine aj_iconst (v := (0 : Int32)) dX12_pairs_7 (by decide) ?_
  refine aj_istore_n (ls2 := [(2, .int ((0 : Int32))), (1, .int ((0 : Int32))), (0, .ref (p0))]) dX12_pairs_8 rfl (Nat.le_of_ble_eq_true rfl) rfl ?_
  refine AJ.sub [2, 1, 0] rfl ?_
  exact t_X12_pairs_9 w S zfu (p0) ((0 : Int32)) ((0 : Int32)) M1
def gX12_placesIn_4 (S : List (Nat × Nat)) : Nat → Nat → Int32 → Int32 → Int32 → zM → Option Int32
  | 0 => fun _ _ _ _ _ => none
  | n + 1 => fun p0 x1 x2 x3 M => zgR S M (p0) 12 66 3 (fun r1 => zaI S M 100 (r1) ((0 : Int32)) (fun v2 => (if v2 ≤ x3 then some (x2) else (if ((x1 >>> (x3 &&& 31)) &&& (1 : Int32)) = (1 : Int32) then zrc S (p0) 12 66 ((gX12_placesOf S (p0) (x3) M).bind (fun v3 => (gX12_placesIn_4 S   n) (p0) (x1) ((x2 + v3)) ((x3 + (1 : Int32))) M)) else (gX12_placesIn_4 S   n) (p0) (x1) ((x2 + (0 : Int32))) ((x3 + (1 : Int32))) M))))
set_option maxHeartbeats 4000000 in
set_option maxRecDepth 100000 in
theorem t_X12_placesIn_4 (w : zWd) (S : List (Nat × Nat)) (fu : Nat) : ∀ (p0 : Nat) (x1 : Int32) (x2 : Int32) (x3 : Int32) (M : zM), AJ (zfI S M) w 2 mX12_placesIn 4 [(0, .ref (p0)), (1, .int (x1)), (2, .int (x2)), (3, .int (x3))] [] (S, M) (gX12_placesIn_4 S fu p0 x1 x2 x3 M) := by
  induction fu with
  | zero => intro p0 x1 x2 x3 M; exact AJ.none
  | succ n ih =>
    intro p0 x1 x2 x3 M
    unfold gX12_placesIn_4
    refine aj_iload_n (3) dX12_placesIn_4 rfl rfl ?_
    refine aj_aload_n (0) dX12_placesIn_5 rfl rfl ?_
    refine aj_getR (TX := TX12) zc12 (by decide) rfl (Or.inl zg_1353) dX12_placesIn_6 (fun r1 => ?_)
    refine aj_iconst (v := (0 : Int32)) dX12_placesIn_9 (by decide) ?_
    refine r_iald dX12_placesIn_10 (fun v2 => ?_)
    refine aj_icmp_ge (tgt := 41) dX12_placesIn_11 (by decide) (fun h => ?_) (fun h => ?_)
    · refine aj_iload_n (2) dX12_placesIn_41 rfl rfl ?_
      exact aj_iret dX12_placesIn_42 rfl rfl rfl
    refine aj_iload_n (2) dX12_placesIn_14 rfl rfl ?_
    refine aj_iload_n (1) dX12_placesIn_15 rfl rfl ?_
    refine aj_iload_n (3) dX12_placesIn_16 rfl rfl ?_
    refine aj_ishr dX12_placesIn_17 ?_
    refine aj_iconst (v := (1 : Int32)) dX12_placesIn_18 (by decide) ?_
    refine aj_iand dX12_placesIn_19 ?_
    refine aj_iconst (v := (1 : Int32)) dX12_placesIn_20 (by decide) ?_
    refine aj_icmp_ne (tgt := 32) dX12_placesIn_21 (by decide) (fun h => ?_) (fun h => ?_)
    · refine aj_iconst (v := (0 : Int32)) dX12_placesIn_32 (by decide) ?_
      refine aj_iadd dX12_placesIn_33 ?_
      refine aj_istore_n (ls2 := [(2, .int ((x2 + (0 : Int32)))), (0, .ref (p0)), (1, .int (x1)), (3, .int (x3))]) dX12_placesIn_34 rfl (Nat.le_of_ble_eq_true rfl) rfl ?_
      refine aj_iinc (j := 3) (v := (x3 + (1 : Int32))) (ls2 := [(3, .int ((x3 + (1 : Int32)))), (2, .int ((x2 + (0 : Int32)))), (0, .ref (p0)), (1, .int (x1))]) dX12_placesIn_35 rfl rfl (Nat.le_of_ble_eq_true rfl) rfl ?_
      refine aj_goto (tgt := 4) dX12_placesIn_38 (by decide) ?_
      refine AJ.sub [2, 3, 1, 0] rfl ?_
      exact ih (p0) (x1) ((x2 + (0 : Int32))) ((x3 + (1 : Int32))) M
    refine aj_aload_n (0) dX12_placesIn_24 rfl rfl ?_
    refine aj_iload_n (3) dX12_placesIn_25 rfl rfl ?_
    refine rV_I (as := [.int (x3)]) (c_X12_placesOf w S _ _ _) mv_X12_placesOf rfl zg_1698 (by decide) (Nat.le_of_ble_eq_true rfl) dX12_placesIn_26 (fun v3 => ?_)
    refine aj_goto (tgt := 33) dX12_placesIn_29 (by decide) ?_
    refine aj_iadd dX12_placesIn_33 ?_
    refine aj_istore_n (ls2 := [(2, .int ((x2 + v3))), (0, .ref (p0)), (1, .int (x1)), (3, .int (x3))]) dX12_placesIn_34 rfl (Nat.le_of_ble_eq_true rfl) rfl ?_
    refine aj_iinc (j := 3) (v := (x3 + (1 : Int32))) (ls2 := [(3, .int ((x3 + (1 : Int32)))), (2, .int ((x2 + v3))), (0, .ref (p0)), (1, .int (x1))]) dX12_placesIn_35 rfl rfl (Nat.le_of_ble_eq_true rfl) rfl ?_
    refine aj_goto (tgt := 4) dX12_placesIn_38 (by decide) ?_
    refine AJ.sub [2, 3, 1, 0] rfl ?_
    exact ih (p0) (x1) ((x2 + v3)) ((x3 + (1 : Int32))) M
def gX12_placesIn (S : List (Nat × Nat)) (p0 : Nat) (x1 : Int32) (M : zM) : Option Int32 := gX12_placesIn_4 S zfu (p0) (x1) ((0 : Int32)) ((0 : Int32)) M
set_option maxHeartbeats 4000000 in
set_option maxRecDepth 100000 in
theorem c_X12_placesIn (w : zWd) (S : List (Nat × Nat)) (p0 : Nat) (x1 : Int32) (M : zM) : CT (zfI S M) w 2 mX12_placesIn [.ref (p0), .int (x1)] (S, M) (gX12_placesIn S p0 x1 M) := by
  refine CT.of (by decide) (Nat.le_of_ble_eq_true rfl) ?_
  show AJ _ _ _ _ 0 [(0, .ref (p0)), (1, .int (x1))] [] _ _
  unfold gX12_placesIn
  refine aj_iconst (v := (0 : Int32)) dX12_placesIn_0 (by decide) ?_
  refine aj_istore_n (ls2 := [(2, .int ((0 : Int32))), (0, .ref (p0)), (1, .int (x1))]) dX12_placesIn_1 rfl (Nat.le_of_ble_eq_true rfl) rfl ?_
  refine aj_iconst (v := (0 : Int32)) dX12_placesIn_2 (by decide) ?_
  refine aj_istore_n (ls2 := [(3, .int ((0 : Int32))), (2, .int ((0 : Int32))), (0, .ref (p0)), (1, .int (x1))]) dX12_placesIn_3 rfl (Nat.le_of_ble_eq_true rfl) rfl ?_
  refine AJ.sub [2, 3, 1, 0] rfl ?_
  exact t_X12_placesIn_4 w S zfu (p0) (x1) ((0 : Int32)) ((0 : Int32)) M
def gX12_power_26 (S : List (Nat × Nat)) : Nat → Nat → Int32 → Int32 → Int32 → Int32 → zM → Option (Int32 × zM)
  | 0 => fun _ _ _ _ _ _ => none
  | n + 1 => fun p0 x1 x2 x3 x4 M => zgR S M (p0) 12 66 3 (fun r1 => zaI S M 100 (r1) ((0 : Int32)) (fun v2 => (if ((1 : Int32) <<< (v2 &&& 31)) ≤ x4 then some (x2, M) else (if ((x4 >>> (x1 &&& 31)) &&& (1 : Int32)) = 0 then (gX12_power_26 S   n) (p0) (x1) (x2) (x3) ((x4 + (1 : Int32))) M else zrc S (p0) 12 66 ((gX12_placesIn S (p0) (x4) M).bind (fun v3 => zgR S M (p0) 12 66 3 (fun r4 => zaI S M 100 (r4) ((1 : Int32)) (fun v5 => (if ((2 : Int32) * v3) ≤ v5 then (gX12_power_26 S   n) (p0) (x1) ((x2 + (0 : Int32))) (x3) ((x4 + (1 : Int32))) M else zgR S M (p0) 12 66 3 (fun r6 => zaI S M 100 (r6) ((1 : Int32)) (fun v7 => (if v7 < ((2 : Int32) * (v3 - x3)) then (gX12_power_26 S   n) (p0) (x1) ((x2 + (0 : Int32))) (x3) ((x4 + (1 : Int32))) M else (gX12_power_26 S   n) (p0) (x1) ((x2 + (1 : Int32))) (x3) ((x4 + (1 : Int32))) M))))))))))))
set_option maxHeartbeats 4000000 in
set_option maxRecDepth 100000 in
theorem t_X12_power_26 (w : zWd) (S : List (Nat × Nat)) (fu : Nat) : ∀ (p0 : Nat) (x1 : Int32) (x2 : Int32) (x3 : Int32) (x4 : Int32) (M : zM), AJ (zfIM S) w 3 mX12_power 26 [(0, .ref (p0)), (1, .int (x1)), (2, .int (x2)), (3, .int (x3)), (4, .int (x4))] [] (S, M) (gX12_power_26 S fu p0 x1 x2 x3 x4 M) := by
  induction fu with
  | zero => intro p0 x1 x2 x3 x4 M; exact AJ.none
  | succ n ih =>
    intro p0 x1 x2 x3 x4 M
    unfold gX12_power_26
    refine aj_iload (4) dX12_power_26 rfl ?_
    refine aj_iconst (v := (1 : Int32)) dX12_power_28 (by decide) ?_
    refine aj_aload_n (0) dX12_power_29 rfl rfl ?_
    refine aj_getR (TX := TX12) zc12 (by decide) rfl (Or.inl zg_1353) dX12_power_30 (fun r1 => ?_)
    refine aj_iconst (v := (0 : Int32)) dX12_power_33 (by decide) ?_
    refine r_iald dX12_power_34 (fun v2 => ?_)
    refine aj_ishl dX12_power_35 ?_
    refine aj_icmp_ge (tgt := 101) dX12_power_36 (by decide) (fun h => ?_) (fun h => ?_)
    · refine aj_iload_n (2) dX12_power_101 rfl rfl ?_
      exact aj_iret dX12_power_102 rfl rfl rfl
    refine aj_iload (4) dX12_power_39 rfl ?_
    refine aj_iload_n (1) dX12_power_41 rfl rfl ?_
    refine aj_ishr dX12_power_42 ?_
    refine aj_iconst (v := (1 : Int32)) dX12_power_43 (by decide) ?_
    refine aj_iand dX12_power_44 ?_
    refine aj_if_ne (tgt := 51) dX12_power_45 (by decide) (fun h => ?_) (fun h => ?_)
    · refine aj_aload_n (0) dX12_power_51 rfl rfl ?_
      refine aj_iload (4) dX12_power_52 rfl ?_
      refine rV_I (as := [.int (x4)]) (c_X12_placesIn w S _ _ _) mv_X12_placesIn rfl zg_1913 (by decide) (Nat.le_of_ble_eq_true rfl) dX12_power_54 (fun v3 => ?_)
      refine aj_istore (ls2 := [(5, .int (v3)), (0, .ref (p0)), (1, .int (x1)), (2, .int (x2)), (3, .int (x3)), (4, .int (x4))]) dX12_power_57 (Nat.le_of_ble_eq_true rfl) rfl ?_
      refine aj_iload_n (3) dX12_power_59 rfl rfl ?_
      refine aj_iconst (v := (2 : Int32)) dX12_power_60 (by decide) ?_
      refine aj_iload (0) dX12_power_61 rfl ?_
      refine aj_imul dX12_power_63 ?_
      refine aj_aload_n (1) dX12_power_64 rfl rfl ?_
      refine aj_getR (TX := TX12) zc12 (by decide) rfl (Or.inl zg_1353) dX12_power_65 (fun r4 => ?_)
      refine aj_iconst (v := (1 : Int32)) dX12_power_68 (by decide) ?_
      refine r_iald dX12_power_69 (fun v5 => ?_)
      refine aj_icmp_le (tgt := 92) dX12_power_70 (by decide) (fun h => ?_) (fun h => ?_)
      · refine aj_iconst (v := (0 : Int32)) dX12_power_92 (by decide) ?_
        refine aj_iadd dX12_power_93 ?_
        refine aj_istore_n (ls2 := [(2, .int ((x2 + (0 : Int32)))), (5, .int (v3)), (0, .ref (p0)), (1, .int (x1)), (3, .int (x3)), (4, .int (x4))]) dX12_power_94 rfl (Nat.le_of_ble_eq_true rfl) rfl ?_
        refine aj_iinc (j := 5) (v := (x4 + (1 : Int32))) (ls2 := [(4, .int ((x4 + (1 : Int32)))), (2, .int ((x2 + (0 : Int32)))), (5, .int (v3)), (0, .ref (p0)), (1, .int (x1)), (3, .int (x3))]) dX12_power_95 rfl rfl (Nat.le_of_ble_eq_true rfl) rfl ?_
        refine aj_goto (tgt := 26) dX12_power_98 (by decide) ?_
        refine AJ.sub [3, 4, 1, 5, 0] rfl ?_
        exact ih (p0) (x1) ((x2 + (0 : Int32))) (x3) ((x4 + (1 : Int32))) M
      refine aj_iconst (v := (2 : Int32)) dX12_power_73 (by decide) ?_
      refine aj_iload (0) dX12_power_74 rfl ?_
      refine aj_iload_n (4) dX12_power_76 rfl rfl ?_
      refine aj_isub dX12_power_77 ?_
      refine aj_imul dX12_power_78 ?_
      refine aj_aload_n (1) dX12_power_79 rfl rfl ?_
      refine aj_getR (TX := TX12) zc12 (by decide) rfl (Or.inl zg_1353) dX12_power_80 (fun r6 => ?_)
      refine aj_iconst (v := (1 : Int32)) dX12_power_83 (by decide) ?_
      refine r_iald dX12_power_84 (fun v7 => ?_)
      refine aj_icmp_gt (tgt := 92) dX12_power_85 (by decide) (fun h => ?_) (fun h => ?_)
      · refine aj_iconst (v := (0 : Int32)) dX12_power_92 (by decide) ?_
        refine aj_iadd dX12_power_93 ?_
        refine aj_istore_n (ls2 := [(2, .int ((x2 + (0 : Int32)))), (5, .int (v3)), (0, .ref (p0)), (1, .int (x1)), (3, .int (x3)), (4, .int (x4))]) dX12_power_94 rfl (Nat.le_of_ble_eq_true rfl) rfl ?_
        refine aj_iinc (j := 5) (v := (x4 + (1 : Int32))) (ls2 := [(4, .int ((x4 + (1 : Int32)))), (2, .int ((x2 + (0 : Int32)))), (5, .int (v3)), (0, .ref (p0)), (1, .int (x1)), (3, .int (x3))]) dX12_power_95 rfl rfl (Nat.le_of_ble_eq_true rfl) rfl ?_
        refine aj_goto (tgt := 26) dX12_power_98 (by decide) ?_
        refine AJ.sub [3, 4, 1, 5, 0] rfl ?_
        exact ih (p0) (x1) ((x2 + (0 : Int32))) (x3) ((x4 + (1 : Int32))) M
      refine aj_iconst (v := (1 : Int32)) dX12_power_88 (by decide) ?_
      refine aj_goto (tgt := 93) dX12_power_89 (by decide) ?_
      refine aj_iadd dX12_power_93 ?_
      refine aj_istore_n (ls2 := [(2, .int ((x2 + (1 : Int32)))), (5, .int (v3)), (0, .ref (p0)), (1, .int (x1)), (3, .int (x3)), (4, .int (x4))]) dX12_power_94 rfl (Nat.le_of_ble_eq_true rfl) rfl ?_
      refine aj_iinc (j := 5) (v := (x4 + (1 : Int32))) (ls2 := [(4, .int ((x4 + (1 : Int32)))), (2, .int ((x2 + (1 : Int32)))), (5, .int (v3)), (0, .ref (p0)), (1, .int (x1)), (3, .int (x3))]) dX12_power_95 rfl rfl (Nat.le_of_ble_eq_true rfl) rfl ?_
      refine aj_goto (tgt := 26) dX12_power_98 (by decide) ?_
      refine AJ.sub [3, 4, 1, 5, 0] rfl ?_
      exact ih (p0) (x1) ((x2 + (1 : Int32))) (x3) ((x4 + (1 : Int32))) M
    refine aj_goto (tgt := 95) dX12_power_48 (by decide) ?_
    refine aj_iinc (j := 4) (v := (x4 + (1 : Int32))) (ls2 := [(4, .int ((x4 + (1 : Int32)))), (0, .ref (p0)), (1, .int (x1)), (2, .int (x2)), (3, .int (x3))]) dX12_power_95 rfl rfl (Nat.le_of_ble_eq_true rfl) rfl ?_
    refine aj_goto (tgt := 26) dX12_power_98 (by decide) ?_
    refine AJ.sub [1, 2, 3, 4, 0] rfl ?_
    exact ih (p0) (x1) (x2) (x3) ((x4 + (1 : Int32))) M
def gX12_power (S : List (Nat × Nat)) (p0 : Nat) (x1 : Int32) (M : zM) : Option (Int32 × zM) := zpI S M (p0) 12 66 0 ((0 : Int32)) (fun M1 => zrc S (p0) 12 66 ((gX12_isTrade S (p0) (x1) M1).bind (fun v2 => (if v2 = 0 then some ((-1 : Int32), M1) else zrc S (p0) 12 66 ((gX12_placesOf S (p0) (x1) M1).bind (fun v3 => gX12_power_26 S zfu (p0) (x1) ((0 : Int32)) (v3) ((0 : Int32)) M1))))))
set_option maxHeartbeats 4000000 in
set_option maxRecDepth 100000 in
theorem c_X12_power (w : zWd) (S : List (Nat × Nat)) (p0 : Nat) (x1 : Int32) (M : zM) : CT (zfIM S) w 3 mX12_power [.ref (p0), .int (x1)] (S, M) (gX12_power S p0 x1 M) := by
  refine CT.of (by decide) (Nat.le_of_ble_eq_true rfl) ?_
  show AJ _ _ _ _ 0 [(0, .ref (p0)), (1, .int (x1))] [] _ _
  unfold gX12_power
  refine aj_aload_n (0) dX12_power_0 rfl rfl ?_
  refine aj_iconst (v := (0 : Int32)) dX12_power_1 (by decide) ?_
  refine r_putI (TX := TX12) zc12 (by decide) rfl rfl rfl rfl (Or.inl zg_1350) dX12_power_2 (fun M1 => ?_)
  refine aj_aload_n (0) dX12_power_5 rfl rfl ?_
  refine aj_iload_n (1) dX12_power_6 rfl rfl ?_
  refine rV_I (as := [.int (x1)]) (c_X12_isTrade w S _ _ _) mv_X12_isTrade rfl zg_1694 (by decide) (Nat.le_of_ble_eq_true rfl) dX12_power_7 (fun v2 => ?_)
  refine aj_if_ne (tgt := 15) dX12_power_10 (by decide) (fun h => ?_) (fun h => ?_)
  · refine aj_iconst (v := (0 : Int32)) dX12_power_15 (by decide) ?_
    refine aj_istore_n (ls2 := [(2, .int ((0 : Int32))), (0, .ref (p0)), (1, .int (x1))]) dX12_power_16 rfl (Nat.le_of_ble_eq_true rfl) rfl ?_
    refine aj_aload_n (1) dX12_power_17 rfl rfl ?_
    refine aj_iload_n (2) dX12_power_18 rfl rfl ?_
    refine rV_I (as := [.int (x1)]) (c_X12_placesOf w S _ _ _) mv_X12_placesOf rfl zg_1698 (by decide) (Nat.le_of_ble_eq_true rfl) dX12_power_19 (fun v3 => ?_)
    refine aj_istore_n (ls2 := [(3, .int (v3)), (2, .int ((0 : Int32))), (0, .ref (p0)), (1, .int (x1))]) dX12_power_22 rfl (Nat.le_of_ble_eq_true rfl) rfl ?_
    refine aj_iconst (v := (0 : Int32)) dX12_power_23 (by decide) ?_
    refine aj_istore (ls2 := [(4, .int ((0 : Int32))), (3, .int (v3)), (2, .int ((0 : Int32))), (0, .ref (p0)), (1, .int (x1))]) dX12_power_24 (Nat.le_of_ble_eq_true rfl) rfl ?_
    refine AJ.sub [3, 4, 2, 1, 0] rfl ?_
    exact t_X12_power_26 w S zfu (p0) (x1) ((0 : Int32)) (v3) ((0 : Int32)) M1
  refine aj_iconst (v := (-1 : Int32)) dX12_power_13 (by decide) ?_
  exact aj_iret dX12_power_14 rfl rfl rfl
def gX12_even_31 (S : List (Nat × Nat)) : Nat → Nat → Int32 → Int32 → Int32 → zM → Option (Int32 × zM)
  | 0 => fun _ _ _ _ _ => none
  | n + 1 => fun p0 x1 x2 x3 M => (if x1 < x3 then some ((0 : Int32), M) else (if (x3 &&& (x1 ^^^ (-1 : Int32))) = 0 then zrc S (p0) 12 66 ((gX12_placesIn S (p0) (x3) M).bind (fun v1 => (if ((2 : Int32) * v1) = x2 then some ((1 : Int32), M) else (gX12_even_31 S   n) (p0) (x1) (x2) ((x3 + (1 : Int32))) M))) else (gX12_even_31 S   n) (p0) (x1) (x2) ((x3 + (1 : Int32))) M))
set_option maxHeartbeats 4000000 in
set_option maxRecDepth 100000 in
theorem t_X12_even_31 (w : zWd) (S : List (Nat × Nat)) (fu : Nat) : ∀ (p0 : Nat) (x1 : Int32) (x2 : Int32) (x3 : Int32) (M : zM), AJ (zfIM S) w 3 mX12_even 31 [(0, .ref (p0)), (1, .int (x1)), (2, .int (x2)), (3, .int (x3))] [] (S, M) (gX12_even_31 S fu p0 x1 x2 x3 M) := by
  induction fu with
  | zero => intro p0 x1 x2 x3 M; exact AJ.none
  | succ n ih =>
    intro p0 x1 x2 x3 M
    unfold gX12_even_31
    refine aj_iload_n (3) dX12_even_31 rfl rfl ?_
    refine aj_iload_n (1) dX12_even_32 rfl rfl ?_
    refine aj_icmp_gt (tgt := 63) dX12_even_33 (by decide) (fun h => ?_) (fun h => ?_)
    · refine aj_iconst (v := (0 : Int32)) dX12_even_63 (by decide) ?_
      exact aj_iret dX12_even_64 rfl rfl rfl
    refine aj_iload_n (3) dX12_even_36 rfl rfl ?_
    refine aj_iload_n (1) dX12_even_37 rfl rfl ?_
    refine aj_iconst (v := (-1 : Int32)) dX12_even_38 (by decide) ?_
    refine aj_ixor dX12_even_39 ?_
    refine aj_iand dX12_even_40 ?_
    refine aj_if_ne (tgt := 57) dX12_even_41 (by decide) (fun h => ?_) (fun h => ?_)
    · refine aj_iinc (j := 3) (v := (x3 + (1 : Int32))) (ls2 := [(3, .int ((x3 + (1 : Int32)))), (0, .ref (p0)), (1, .int (x1)), (2, .int (x2))]) dX12_even_57 rfl rfl (Nat.le_of_ble_eq_true rfl) rfl ?_
      refine aj_goto (tgt := 31) dX12_even_60 (by decide) ?_
      refine AJ.sub [1, 2, 3, 0] rfl ?_
      exact ih (p0) (x1) (x2) ((x3 + (1 : Int32))) M
    refine aj_iconst (v := (2 : Int32)) dX12_even_44 (by decide) ?_
    refine aj_aload_n (0) dX12_even_45 rfl rfl ?_
    refine aj_iload_n (3) dX12_even_46 rfl rfl ?_
    refine rV_I (as := [.int (x3)]) (c_X12_placesIn w S _ _ _) mv_X12_placesIn rfl zg_1913 (by decide) (Nat.le_of_ble_eq_true rfl) dX12_even_47 (fun v1 => ?_)
    refine aj_imul dX12_even_50 ?_
    refine aj_iload_n (2) dX12_even_51 rfl rfl ?_
    refine aj_icmp_ne (tgt := 57) dX12_even_52 (by decide) (fun h => ?_) (fun h => ?_)
    · refine aj_iinc (j := 3) (v := (x3 + (1 : Int32))) (ls2 := [(3, .int ((x3 + (1 : Int32)))), (0, .ref (p0)), (1, .int (x1)), (2, .int (x2))]) dX12_even_57 rfl rfl (Nat.le_of_ble_eq_true rfl) rfl ?_
      refine aj_goto (tgt := 31) dX12_even_60 (by decide) ?_
      refine AJ.sub [1, 2, 3, 0] rfl ?_
      exact ih (p0) (x1) (x2) ((x3 + (1 : Int32))) M
    refine aj_iconst (v := (1 : Int32)) dX12_even_55 (by decide) ?_
    exact aj_iret dX12_even_56 rfl rfl rfl
def gX12_even (S : List (Nat × Nat)) (p0 : Nat) (x1 : Int32) (M : zM) : Option (Int32 × zM) := zpI S M (p0) 12 66 0 ((0 : Int32)) (fun M1 => (if x1 < 0 then some ((-1 : Int32), M1) else zgR S M1 (p0) 12 66 3 (fun r2 => zaI S M1 100 (r2) ((0 : Int32)) (fun v3 => (if x1 < ((1 : Int32) <<< (v3 &&& 31)) then zrc S (p0) 12 66 ((gX12_placesIn S (p0) (x1) M1).bind (fun v4 => gX12_even_31 S zfu (p0) (x1) (v4) ((0 : Int32)) M1)) else some ((-1 : Int32), M1))))))
set_option maxHeartbeats 4000000 in
set_option maxRecDepth 100000 in
theorem c_X12_even (w : zWd) (S : List (Nat × Nat)) (p0 : Nat) (x1 : Int32) (M : zM) : CT (zfIM S) w 3 mX12_even [.ref (p0), .int (x1)] (S, M) (gX12_even S p0 x1 M) := by
  refine CT.of (by decide) (Nat.le_of_ble_eq_true rfl) ?_
  show AJ _ _ _ _ 0 [(0, .ref (p0)), (1, .int (x1))] [] _ _
  unfold gX12_even
  refine aj_aload_n (0) dX12_even_0 rfl rfl ?_
  refine aj_iconst (v := (0 : Int32)) dX12_even_1 (by decide) ?_
  refine r_putI (TX := TX12) zc12 (by decide) rfl rfl rfl rfl (Or.inl zg_1350) dX12_even_2 (fun M1 => ?_)
  refine aj_iload_n (1) dX12_even_5 rfl rfl ?_
  refine aj_if_lt (tgt := 21) dX12_even_6 (by decide) (fun h => ?_) (fun h => ?_)
  · refine aj_iconst (v := (-1 : Int32)) dX12_even_21 (by decide) ?_
    exact aj_iret dX12_even_22 rfl rfl rfl
  refine aj_iload_n (1) dX12_even_9 rfl rfl ?_
  refine aj_iconst (v := (1 : Int32)) dX12_even_10 (by decide) ?_
  refine aj_aload_n (0) dX12_even_11 rfl rfl ?_
  refine aj_getR (TX := TX12) zc12 (by decide) rfl (Or.inl zg_1353) dX12_even_12 (fun r2 => ?_)
  refine aj_iconst (v := (0 : Int32)) dX12_even_15 (by decide) ?_
  refine r_iald dX12_even_16 (fun v3 => ?_)
  refine aj_ishl dX12_even_17 ?_
  refine aj_icmp_lt (tgt := 23) dX12_even_18 (by decide) (fun h => ?_) (fun h => ?_)
  · refine aj_aload_n (0) dX12_even_23 rfl rfl ?_
    refine aj_iload_n (1) dX12_even_24 rfl rfl ?_
    refine rV_I (as := [.int (x1)]) (c_X12_placesIn w S _ _ _) mv_X12_placesIn rfl zg_1913 (by decide) (Nat.le_of_ble_eq_true rfl) dX12_even_25 (fun v4 => ?_)
    refine aj_istore_n (ls2 := [(2, .int (v4)), (0, .ref (p0)), (1, .int (x1))]) dX12_even_28 rfl (Nat.le_of_ble_eq_true rfl) rfl ?_
    refine aj_iconst (v := (0 : Int32)) dX12_even_29 (by decide) ?_
    refine aj_istore_n (ls2 := [(3, .int ((0 : Int32))), (2, .int (v4)), (0, .ref (p0)), (1, .int (x1))]) dX12_even_30 rfl (Nat.le_of_ble_eq_true rfl) rfl ?_
    refine AJ.sub [2, 3, 1, 0] rfl ?_
    exact t_X12_even_31 w S zfu (p0) (x1) (v4) ((0 : Int32)) M1
  refine aj_iconst (v := (-1 : Int32)) dX12_even_21 (by decide) ?_
  exact aj_iret dX12_even_22 rfl rfl rfl
def gX12_rare_10 (S : List (Nat × Nat)) : Nat → Nat → Int32 → Int32 → zM → Option (Int32 × zM)
  | 0 => fun _ _ _ _ => none
  | n + 1 => fun p0 x1 x2 M => zgR S M (p0) 12 66 3 (fun r1 => zaI S M 100 (r1) ((0 : Int32)) (fun v2 => (if v2 ≤ x2 then some (x1, M) else zrc S (p0) 12 66 ((gX12_placesOf S (p0) (x2) M).bind (fun v3 => (if v3 ≤ 0 then (gX12_rare_10 S   n) (p0) (x1) ((x2 + (1 : Int32))) M else (if x1 < 0 then (gX12_rare_10 S   n) (p0) (x2) ((x2 + (1 : Int32))) M else zgR S M (p0) 12 66 42 (fun r4 => zaI S M 100 (r4) (x2) (fun v5 => zgR S M (p0) 12 66 42 (fun r6 => zaI S M 100 (r6) (x1) (fun v7 => (if v7 ≤ v5 then (gX12_rare_10 S   n) (p0) (x1) ((x2 + (1 : Int32))) M else (gX12_rare_10 S   n) (p0) (x2) ((x2 + (1 : Int32))) M))))))))))))
set_option maxHeartbeats 4000000 in
set_option maxRecDepth 100000 in
theorem t_X12_rare_10 (w : zWd) (S : List (Nat × Nat)) (fu : Nat) : ∀ (p0 : Nat) (x1 : Int32) (x2 : Int32) (M : zM), AJ (zfIM S) w 2 mX12_rare 10 [(0, .ref (p0)), (1, .int (x1)), (2, .int (x2))] [] (S, M) (gX12_rare_10 S fu p0 x1 x2 M) := by
  induction fu with
  | zero => intro p0 x1 x2 M; exact AJ.none
  | succ n ih =>
    intro p0 x1 x2 M
    unfold gX12_rare_10
    refine aj_iload_n (2) dX12_rare_10 rfl rfl ?_
    refine aj_aload_n (0) dX12_rare_11 rfl rfl ?_
    refine aj_getR (TX := TX12) zc12 (by decide) rfl (Or.inl zg_1353) dX12_rare_12 (fun r1 => ?_)
    refine aj_iconst (v := (0 : Int32)) dX12_rare_15 (by decide) ?_
    refine r_iald dX12_rare_16 (fun v2 => ?_)
    refine aj_icmp_ge (tgt := 55) dX12_rare_17 (by decide) (fun h => ?_) (fun h => ?_)
    · refine aj_iload_n (1) dX12_rare_55 rfl rfl ?_
      exact aj_iret dX12_rare_56 rfl rfl rfl
    refine aj_aload_n (0) dX12_rare_20 rfl rfl ?_
    refine aj_iload_n (2) dX12_rare_21 rfl rfl ?_
    refine rV_I (as := [.int (x2)]) (c_X12_placesOf w S _ _ _) mv_X12_placesOf rfl zg_1698 (by decide) (Nat.le_of_ble_eq_true rfl) dX12_rare_22 (fun v3 => ?_)
    refine aj_if_le (tgt := 49) dX12_rare_25 (by decide) (fun h => ?_) (fun h => ?_)
    · refine aj_iinc (j := 2) (v := (x2 + (1 : Int32))) (ls2 := [(2, .int ((x2 + (1 : Int32)))), (0, .ref (p0)), (1, .int (x1))]) dX12_rare_49 rfl rfl (Nat.le_of_ble_eq_true rfl) rfl ?_
      refine aj_goto (tgt := 10) dX12_rare_52 (by decide) ?_
      refine AJ.sub [1, 2, 0] rfl ?_
      exact ih (p0) (x1) ((x2 + (1 : Int32))) M
    refine aj_iload_n (1) dX12_rare_28 rfl rfl ?_
    refine aj_if_lt (tgt := 47) dX12_rare_29 (by decide) (fun h => ?_) (fun h => ?_)
    · refine aj_iload_n (2) dX12_rare_47 rfl rfl ?_
      refine aj_istore_n (ls2 := [(1, .int (x2)), (0, .ref (p0)), (2, .int (x2))]) dX12_rare_48 rfl (Nat.le_of_ble_eq_true rfl) rfl ?_
      refine aj_iinc (j := 2) (v := (x2 + (1 : Int32))) (ls2 := [(2, .int ((x2 + (1 : Int32)))), (1, .int (x2)), (0, .ref (p0))]) dX12_rare_49 rfl rfl (Nat.le_of_ble_eq_true rfl) rfl ?_
      refine aj_goto (tgt := 10) dX12_rare_52 (by decide) ?_
      refine AJ.sub [2, 1, 0] rfl ?_
      exact ih (p0) (x2) ((x2 + (1 : Int32))) M
    refine aj_aload_n (0) dX12_rare_32 rfl rfl ?_
    refine aj_getR (TX := TX12) zc12 (by decide) rfl (Or.inl zg_1392) dX12_rare_33 (fun r4 => ?_)
    refine aj_iload_n (2) dX12_rare_36 rfl rfl ?_
    refine r_iald dX12_rare_37 (fun v5 => ?_)
    refine aj_aload_n (0) dX12_rare_38 rfl rfl ?_
    refine aj_getR (TX := TX12) zc12 (by decide) rfl (Or.inl zg_1392) dX12_rare_39 (fun r6 => ?_)
    refine aj_iload_n (1) dX12_rare_42 rfl rfl ?_
    refine r_iald dX12_rare_43 (fun v7 => ?_)
    refine aj_icmp_ge (tgt := 49) dX12_rare_44 (by decide) (fun h => ?_) (fun h => ?_)
    · refine aj_iinc (j := 2) (v := (x2 + (1 : Int32))) (ls2 := [(2, .int ((x2 + (1 : Int32)))), (0, .ref (p0)), (1, .int (x1))]) dX12_rare_49 rfl rfl (Nat.le_of_ble_eq_true rfl) rfl ?_
      refine aj_goto (tgt := 10) dX12_rare_52 (by decide) ?_
      refine AJ.sub [1, 2, 0] rfl ?_
      exact ih (p0) (x1) ((x2 + (1 : Int32))) M
    refine aj_iload_n (2) dX12_rare_47 rfl rfl ?_
    refine aj_istore_n (ls2 := [(1, .int (x2)), (0, .ref (p0)), (2, .int (x2))]) dX12_rare_48 rfl (Nat.le_of_ble_eq_true rfl) rfl ?_
    refine aj_iinc (j := 2) (v := (x2 + (1 : Int32))) (ls2 := [(2, .int ((x2 + (1 : Int32)))), (1, .int (x2)), (0, .ref (p0))]) dX12_rare_49 rfl rfl (Nat.le_of_ble_eq_true rfl) rfl ?_
    refine aj_goto (tgt := 10) dX12_rare_52 (by decide) ?_
    refine AJ.sub [2, 1, 0] rfl ?_
    exact ih (p0) (x2) ((x2 + (1 : Int32))) M
def gX12_rare (S : List (Nat × Nat)) (p0 : Nat) (M : zM) : Option (Int32 × zM) := zpI S M (p0) 12 66 0 ((0 : Int32)) (fun M1 => gX12_rare_10 S zfu (p0) ((-2 : Int32)) ((0 : Int32)) M1)
set_option maxHeartbeats 4000000 in
set_option maxRecDepth 100000 in
theorem c_X12_rare (w : zWd) (S : List (Nat × Nat)) (p0 : Nat) (M : zM) : CT (zfIM S) w 2 mX12_rare [.ref (p0)] (S, M) (gX12_rare S p0 M) := by
  refine CT.of (by decide) (Nat.le_of_ble_eq_true rfl) ?_
  show AJ _ _ _ _ 0 [(0, .ref (p0))] [] _ _
  unfold gX12_rare
  refine aj_aload_n (0) dX12_rare_0 rfl rfl ?_
  refine aj_iconst (v := (0 : Int32)) dX12_rare_1 (by decide) ?_
  refine r_putI (TX := TX12) zc12 (by decide) rfl rfl rfl rfl (Or.inl zg_1350) dX12_rare_2 (fun M1 => ?_)
  refine aj_bipush (v := (-2 : Int32)) dX12_rare_5 (by decide) ?_
  refine aj_istore_n (ls2 := [(1, .int ((-2 : Int32))), (0, .ref (p0))]) dX12_rare_7 rfl (Nat.le_of_ble_eq_true rfl) rfl ?_
  refine aj_iconst (v := (0 : Int32)) dX12_rare_8 (by decide) ?_
  refine aj_istore_n (ls2 := [(2, .int ((0 : Int32))), (1, .int ((-2 : Int32))), (0, .ref (p0))]) dX12_rare_9 rfl (Nat.le_of_ble_eq_true rfl) rfl ?_
  refine AJ.sub [2, 1, 0] rfl ?_
  exact t_X12_rare_10 w S zfu (p0) ((-2 : Int32)) ((0 : Int32)) M1
def gX12_hasOf (S : List (Nat × Nat)) (p0 : Nat) (x1 : Int32) (x2 : Int32) (x3 : Int32) (x4 : Int32) (M : zM) : Option Int32 := (if x3 = (1 : Int32) then (if x4 = 0 then some ((2 : Int32)) else some ((1 : Int32))) else (if x4 = 0 then zgR S M (p0) 12 66 6 (fun r5 => zaI S M 100 (r5) (x1) (fun v6 => zgR S M (p0) 12 66 5 (fun r7 => zaI S M 100 (r7) (x1) (fun v8 => zgR S M (p0) 12 66 5 (fun r9 => zaI S M 100 (r9) (x2) (fun v10 => (gX12_apart S (v8) (v10) M).bind (fun v11 => some ((v6 - (v11 / (3 : Int32))))))))))) else zgR S M (p0) 12 66 6 (fun r1 => zaI S M 100 (r1) (x1) (fun v2 => zgR S M (p0) 12 66 41 (fun r3 => zaI S M 100 (r3) (x1) (fun v4 => some ((v2 + (v4 / (20 : Int32))))))))))
set_option maxHeartbeats 4000000 in
set_option maxRecDepth 100000 in
theorem c_X12_hasOf (w : zWd) (S : List (Nat × Nat)) (p0 : Nat) (x1 : Int32) (x2 : Int32) (x3 : Int32) (x4 : Int32) (M : zM) : CT (zfI S M) w 2 mX12_hasOf [.ref (p0), .int (x1), .int (x2), .int (x3), .int (x4)] (S, M) (gX12_hasOf S p0 x1 x2 x3 x4 M) := by
  refine CT.of (by decide) (Nat.le_of_ble_eq_true rfl) ?_
  show AJ _ _ _ _ 0 [(0, .ref (p0)), (1, .int (x1)), (2, .int (x2)), (3, .int (x3)), (4, .int (x4))] [] _ _
  unfold gX12_hasOf
  refine aj_iload_n (3) dX12_hasOf_0 rfl rfl ?_
  refine aj_iconst (v := (1 : Int32)) dX12_hasOf_1 (by decide) ?_
  refine aj_icmp_ne (tgt := 16) dX12_hasOf_2 (by decide) (fun h => ?_) (fun h => ?_)
  · refine aj_iload (4) dX12_hasOf_16 rfl ?_
    refine aj_if_ne (tgt := 48) dX12_hasOf_18 (by decide) (fun h => ?_) (fun h => ?_)
    · refine aj_aload_n (0) dX12_hasOf_48 rfl rfl ?_
      refine aj_getR (TX := TX12) zc12 (by decide) rfl (Or.inl zg_1356) dX12_hasOf_49 (fun r1 => ?_)
      refine aj_iload_n (1) dX12_hasOf_52 rfl rfl ?_
      refine r_iald dX12_hasOf_53 (fun v2 => ?_)
      refine aj_aload_n (0) dX12_hasOf_54 rfl rfl ?_
      refine aj_getR (TX := TX12) zc12 (by decide) rfl (Or.inl zg_1391) dX12_hasOf_55 (fun r3 => ?_)
      refine aj_iload_n (1) dX12_hasOf_58 rfl rfl ?_
      refine r_iald dX12_hasOf_59 (fun v4 => ?_)
      refine aj_bipush (v := (20 : Int32)) dX12_hasOf_60 (by decide) ?_
      refine aj_idivc dX12_hasOf_62 (by decide) ?_
      refine aj_iadd dX12_hasOf_63 ?_
      exact aj_iret dX12_hasOf_64 rfl rfl rfl
    refine aj_aload_n (0) dX12_hasOf_21 rfl rfl ?_
    refine aj_getR (TX := TX12) zc12 (by decide) rfl (Or.inl zg_1356) dX12_hasOf_22 (fun r5 => ?_)
    refine aj_iload_n (1) dX12_hasOf_25 rfl rfl ?_
    refine r_iald dX12_hasOf_26 (fun v6 => ?_)
    refine aj_aload_n (0) dX12_hasOf_27 rfl rfl ?_
    refine aj_getR (TX := TX12) zc12 (by decide) rfl (Or.inl zg_1355) dX12_hasOf_28 (fun r7 => ?_)
    refine aj_iload_n (1) dX12_hasOf_31 rfl rfl ?_
    refine r_iald dX12_hasOf_32 (fun v8 => ?_)
    refine aj_aload_n (0) dX12_hasOf_33 rfl rfl ?_
    refine aj_getR (TX := TX12) zc12 (by decide) rfl (Or.inl zg_1355) dX12_hasOf_34 (fun r9 => ?_)
    refine aj_iload_n (2) dX12_hasOf_37 rfl rfl ?_
    refine r_iald dX12_hasOf_38 (fun v10 => ?_)
    refine rS_I (as := [.int (v8), .int (v10)]) (c_X12_apart w S _ _ _) ms_X12_apart rfl zg_1902 (by decide) (Nat.le_of_ble_eq_true rfl) dX12_hasOf_39 (fun v11 => ?_)
    refine aj_iconst (v := (3 : Int32)) dX12_hasOf_42 (by decide) ?_
    refine aj_idivc dX12_hasOf_43 (by decide) ?_
    refine aj_isub dX12_hasOf_44 ?_
    refine aj_goto (tgt := 64) dX12_hasOf_45 (by decide) ?_
    exact aj_iret dX12_hasOf_64 rfl rfl rfl
  refine aj_iload (4) dX12_hasOf_5 rfl ?_
  refine aj_if_ne (tgt := 14) dX12_hasOf_7 (by decide) (fun h => ?_) (fun h => ?_)
  · refine aj_iconst (v := (1 : Int32)) dX12_hasOf_14 (by decide) ?_
    exact aj_iret dX12_hasOf_15 rfl rfl rfl
  refine aj_iconst (v := (2 : Int32)) dX12_hasOf_10 (by decide) ?_
  refine aj_goto (tgt := 15) dX12_hasOf_11 (by decide) ?_
  exact aj_iret dX12_hasOf_15 rfl rfl rfl
def gX12_isRest (S : List (Nat × Nat)) (p0 : Nat) (x1 : Int32) (x2 : Int32) (x3 : Int32) (M : zM) : Option Int32 := zrc S (p0) 12 66 ((gX12_hasOf S (p0) (x1) (x2) (((1 : Int32) - (x3 / (2 : Int32)))) ((x3 - x3 / (2 : Int32) * (2 : Int32))) M).bind (fun v1 => zrc S (p0) 12 66 ((gX12_hasOf S (p0) (x1) (x2) ((x3 / (2 : Int32))) ((x3 - x3 / (2 : Int32) * (2 : Int32))) M).bind (fun v2 => (if v2 < v1 then some ((0 : Int32)) else zrc S (p0) 12 66 ((gX12_hasOf S (p0) (x2) (x1) (((1 : Int32) - (x3 - x3 / (2 : Int32) * (2 : Int32)))) ((x3 / (2 : Int32))) M).bind (fun v3 => zrc S (p0) 12 66 ((gX12_hasOf S (p0) (x2) (x1) ((x3 - x3 / (2 : Int32) * (2 : Int32))) ((x3 / (2 : Int32))) M).bind (fun v4 => (if v4 < v3 then some ((0 : Int32)) else some ((1 : Int32))))))))))))
set_option maxHeartbeats 4000000 in
set_option maxRecDepth 100000 in
theorem c_X12_isRest (w : zWd) (S : List (Nat × Nat)) (p0 : Nat) (x1 : Int32) (x2 : Int32) (x3 : Int32) (M : zM) : CT (zfI S M) w 3 mX12_isRest [.ref (p0), .int (x1), .int (x2), .int (x3)] (S, M) (gX12_isRest S p0 x1 x2 x3 M) := by
  refine CT.of (by decide) (Nat.le_of_ble_eq_true rfl) ?_
  show AJ _ _ _ _ 0 [(0, .ref (p0)), (1, .int (x1)), (2, .int (x2)), (3, .int (x3))] [] _ _
  unfold gX12_isRest
  refine aj_iload_n (3) dX12_isRest_0 rfl rfl ?_
  refine aj_iconst (v := (2 : Int32)) dX12_isRest_1 (by decide) ?_
  refine aj_idivc dX12_isRest_2 (by decide) ?_
  refine aj_istore (ls2 := [(4, .int ((x3 / (2 : Int32)))), (0, .ref (p0)), (1, .int (x1)), (2, .int (x2)), (3, .int (x3))]) dX12_isRest_3 (Nat.le_of_ble_eq_true rfl) rfl ?_
  refine aj_iload_n (4) dX12_isRest_5 rfl rfl ?_
  refine aj_iconst (v := (2 : Int32)) dX12_isRest_6 (by decide) ?_
  refine aj_iremc dX12_isRest_7 (by decide) ?_
  refine aj_istore (ls2 := [(5, .int ((x3 - x3 / (2 : Int32) * (2 : Int32)))), (4, .int ((x3 / (2 : Int32)))), (0, .ref (p0)), (1, .int (x1)), (2, .int (x2)), (3, .int (x3))]) dX12_isRest_8 (Nat.le_of_ble_eq_true rfl) rfl ?_
  refine aj_aload_n (2) dX12_isRest_10 rfl rfl ?_
  refine aj_iload_n (3) dX12_isRest_11 rfl rfl ?_
  refine aj_iload_n (4) dX12_isRest_12 rfl rfl ?_
  refine aj_iconst (v := (1 : Int32)) dX12_isRest_13 (by decide) ?_
  refine aj_iload (1) dX12_isRest_14 rfl ?_
  refine aj_isub dX12_isRest_16 ?_
  refine aj_iload (0) dX12_isRest_17 rfl ?_
  refine rV_I (as := [.int (x1), .int (x2), .int (((1 : Int32) - (x3 / (2 : Int32)))), .int ((x3 - x3 / (2 : Int32) * (2 : Int32)))]) (c_X12_hasOf w S _ _ _ _ _ _) mv_X12_hasOf rfl zg_1941 (by decide) (Nat.le_of_ble_eq_true rfl) dX12_isRest_19 (fun v1 => ?_)
  refine aj_aload_n (2) dX12_isRest_22 rfl rfl ?_
  refine aj_iload_n (3) dX12_isRest_23 rfl rfl ?_
  refine aj_iload_n (4) dX12_isRest_24 rfl rfl ?_
  refine aj_iload (1) dX12_isRest_25 rfl ?_
  refine aj_iload (0) dX12_isRest_27 rfl ?_
  refine rV_I (as := [.int (x1), .int (x2), .int ((x3 / (2 : Int32))), .int ((x3 - x3 / (2 : Int32) * (2 : Int32)))]) (c_X12_hasOf w S _ _ _ _ _ _) mv_X12_hasOf rfl zg_1941 (by decide) (Nat.le_of_ble_eq_true rfl) dX12_isRest_29 (fun v2 => ?_)
  refine aj_icmp_gt (tgt := 64) dX12_isRest_32 (by decide) (fun h => ?_) (fun h => ?_)
  · refine aj_iconst (v := (0 : Int32)) dX12_isRest_64 (by decide) ?_
    exact aj_iret dX12_isRest_65 rfl (by decide +kernel) rfl
  refine aj_aload_n (2) dX12_isRest_35 rfl rfl ?_
  refine aj_iload_n (4) dX12_isRest_36 rfl rfl ?_
  refine aj_iload_n (3) dX12_isRest_37 rfl rfl ?_
  refine aj_iconst (v := (1 : Int32)) dX12_isRest_38 (by decide) ?_
  refine aj_iload (0) dX12_isRest_39 rfl ?_
  refine aj_isub dX12_isRest_41 ?_
  refine aj_iload (1) dX12_isRest_42 rfl ?_
  refine rV_I (as := [.int (x2), .int (x1), .int (((1 : Int32) - (x3 - x3 / (2 : Int32) * (2 : Int32)))), .int ((x3 / (2 : Int32)))]) (c_X12_hasOf w S _ _ _ _ _ _) mv_X12_hasOf rfl zg_1941 (by decide) (Nat.le_of_ble_eq_true rfl) dX12_isRest_44 (fun v3 => ?_)
  refine aj_aload_n (2) dX12_isRest_47 rfl rfl ?_
  refine aj_iload_n (4) dX12_isRest_48 rfl rfl ?_
  refine aj_iload_n (3) dX12_isRest_49 rfl rfl ?_
  refine aj_iload (0) dX12_isRest_50 rfl ?_
  refine aj_iload (1) dX12_isRest_52 rfl ?_
  refine rV_I (as := [.int (x2), .int (x1), .int ((x3 - x3 / (2 : Int32) * (2 : Int32))), .int ((x3 / (2 : Int32)))]) (c_X12_hasOf w S _ _ _ _ _ _) mv_X12_hasOf rfl zg_1941 (by decide) (Nat.le_of_ble_eq_true rfl) dX12_isRest_54 (fun v4 => ?_)
  refine aj_icmp_gt (tgt := 64) dX12_isRest_57 (by decide) (fun h => ?_) (fun h => ?_)
  · refine aj_iconst (v := (0 : Int32)) dX12_isRest_64 (by decide) ?_
    exact aj_iret dX12_isRest_65 rfl (by decide +kernel) rfl
  refine aj_iconst (v := (1 : Int32)) dX12_isRest_60 (by decide) ?_
  refine aj_goto (tgt := 65) dX12_isRest_61 (by decide) ?_
  exact aj_iret dX12_isRest_65 rfl (by decide +kernel) rfl
def gX12_restOf_6 (S : List (Nat × Nat)) : Nat → Nat → Int32 → Int32 → Int32 → Int32 → Int32 → zM → Option Int32
  | 0 => fun _ _ _ _ _ _ _ => none
  | n + 1 => fun p0 x1 x2 x3 x4 x5 M => (if (4 : Int32) ≤ x5 then (if x3 = (-1 : Int32) then some (x4) else some ((-2 : Int32))) else zrc S (p0) 12 66 ((gX12_isRest S (p0) (x1) (x2) (x5) M).bind (fun v1 => (if v1 = 0 then (gX12_restOf_6 S   n) (p0) (x1) (x2) (x3) (x4) ((x5 + (1 : Int32))) M else (if x4 = x3 then some ((((10 : Int32) * (x5 / (2 : Int32))) + (x5 - x5 / (2 : Int32) * (2 : Int32)))) else (gX12_restOf_6 S   n) (p0) (x1) (x2) (x3) ((x4 + (1 : Int32))) ((x5 + (1 : Int32))) M)))))
set_option maxHeartbeats 4000000 in
set_option maxRecDepth 100000 in
theorem t_X12_restOf_6 (w : zWd) (S : List (Nat × Nat)) (fu : Nat) : ∀ (p0 : Nat) (x1 : Int32) (x2 : Int32) (x3 : Int32) (x4 : Int32) (x5 : Int32) (M : zM), AJ (zfI S M) w 4 mX12_restOf 6 [(0, .ref (p0)), (1, .int (x1)), (2, .int (x2)), (3, .int (x3)), (4, .int (x4)), (5, .int (x5))] [] (S, M) (gX12_restOf_6 S fu p0 x1 x2 x3 x4 x5 M) := by
  induction fu with
  | zero => intro p0 x1 x2 x3 x4 x5 M; exact AJ.none
  | succ n ih =>
    intro p0 x1 x2 x3 x4 x5 M
    unfold gX12_restOf_6
    refine aj_iload (5) dX12_restOf_6 rfl ?_
    refine aj_iconst (v := (4 : Int32)) dX12_restOf_8 (by decide) ?_
    refine aj_icmp_ge (tgt := 54) dX12_restOf_9 (by decide) (fun h => ?_) (fun h => ?_)
    · refine aj_iload_n (3) dX12_restOf_54 rfl rfl ?_
      refine aj_iconst (v := (-1 : Int32)) dX12_restOf_55 (by decide) ?_
      refine aj_icmp_ne (tgt := 64) dX12_restOf_56 (by decide) (fun h => ?_) (fun h => ?_)
      · refine aj_bipush (v := (-2 : Int32)) dX12_restOf_64 (by decide) ?_
        exact aj_iret dX12_restOf_66 rfl rfl rfl
      refine aj_iload (4) dX12_restOf_59 rfl ?_
      refine aj_goto (tgt := 66) dX12_restOf_61 (by decide) ?_
      exact aj_iret dX12_restOf_66 rfl rfl rfl
    refine aj_aload_n (0) dX12_restOf_12 rfl rfl ?_
    refine aj_iload_n (1) dX12_restOf_13 rfl rfl ?_
    refine aj_iload_n (2) dX12_restOf_14 rfl rfl ?_
    refine aj_iload (5) dX12_restOf_15 rfl ?_
    refine rV_I (as := [.int (x1), .int (x2), .int (x5)]) (c_X12_isRest w S _ _ _ _ _) mv_X12_isRest rfl zg_1937 (by decide) (Nat.le_of_ble_eq_true rfl) dX12_restOf_17 (fun v1 => ?_)
    refine aj_if_ne (tgt := 26) dX12_restOf_20 (by decide) (fun h => ?_) (fun h => ?_)
    · refine aj_iload (4) dX12_restOf_26 rfl ?_
      refine aj_iload_n (3) dX12_restOf_28 rfl rfl ?_
      refine aj_icmp_ne (tgt := 45) dX12_restOf_29 (by decide) (fun h => ?_) (fun h => ?_)
      · refine aj_iinc (j := 4) (v := (x4 + (1 : Int32))) (ls2 := [(4, .int ((x4 + (1 : Int32)))), (0, .ref (p0)), (1, .int (x1)), (2, .int (x2)), (3, .int (x3)), (5, .int (x5))]) dX12_restOf_45 rfl rfl (Nat.le_of_ble_eq_true rfl) rfl ?_
        refine aj_iinc (j := 5) (v := (x5 + (1 : Int32))) (ls2 := [(5, .int ((x5 + (1 : Int32)))), (4, .int ((x4 + (1 : Int32)))), (0, .ref (p0)), (1, .int (x1)), (2, .int (x2)), (3, .int (x3))]) dX12_restOf_48 rfl rfl (Nat.le_of_ble_eq_true rfl) rfl ?_
        refine aj_goto (tgt := 6) dX12_restOf_51 (by decide) ?_
        refine AJ.sub [2, 3, 4, 5, 1, 0] rfl ?_
        exact ih (p0) (x1) (x2) (x3) ((x4 + (1 : Int32))) ((x5 + (1 : Int32))) M
      refine aj_bipush (v := (10 : Int32)) dX12_restOf_32 (by decide) ?_
      refine aj_iload (5) dX12_restOf_34 rfl ?_
      refine aj_iconst (v := (2 : Int32)) dX12_restOf_36 (by decide) ?_
      refine aj_idivc dX12_restOf_37 (by decide) ?_
      refine aj_imul dX12_restOf_38 ?_
      refine aj_iload (5) dX12_restOf_39 rfl ?_
      refine aj_iconst (v := (2 : Int32)) dX12_restOf_41 (by decide) ?_
      refine aj_iremc dX12_restOf_42 (by decide) ?_
      refine aj_iadd dX12_restOf_43 ?_
      exact aj_iret dX12_restOf_44 rfl rfl rfl
    refine aj_goto (tgt := 48) dX12_restOf_23 (by decide) ?_
    refine aj_iinc (j := 5) (v := (x5 + (1 : Int32))) (ls2 := [(5, .int ((x5 + (1 : Int32)))), (0, .ref (p0)), (1, .int (x1)), (2, .int (x2)), (3, .int (x3)), (4, .int (x4))]) dX12_restOf_48 rfl rfl (Nat.le_of_ble_eq_true rfl) rfl ?_
    refine aj_goto (tgt := 6) dX12_restOf_51 (by decide) ?_
    refine AJ.sub [1, 2, 3, 4, 5, 0] rfl ?_
    exact ih (p0) (x1) (x2) (x3) (x4) ((x5 + (1 : Int32))) M
def gX12_restOf (S : List (Nat × Nat)) (p0 : Nat) (x1 : Int32) (x2 : Int32) (x3 : Int32) (M : zM) : Option Int32 := gX12_restOf_6 S zfu (p0) (x1) (x2) (x3) ((0 : Int32)) ((0 : Int32)) M
set_option maxHeartbeats 4000000 in
set_option maxRecDepth 100000 in
theorem c_X12_restOf (w : zWd) (S : List (Nat × Nat)) (p0 : Nat) (x1 : Int32) (x2 : Int32) (x3 : Int32) (M : zM) : CT (zfI S M) w 4 mX12_restOf [.ref (p0), .int (x1), .int (x2), .int (x3)] (S, M) (gX12_restOf S p0 x1 x2 x3 M) := by
  refine CT.of (by decide) (Nat.le_of_ble_eq_true rfl) ?_
  show AJ _ _ _ _ 0 [(0, .ref (p0)), (1, .int (x1)), (2, .int (x2)), (3, .int (x3))] [] _ _
  unfold gX12_restOf
  refine aj_iconst (v := (0 : Int32)) dX12_restOf_0 (by decide) ?_
  refine aj_istore (ls2 := [(4, .int ((0 : Int32))), (0, .ref (p0)), (1, .int (x1)), (2, .int (x2)), (3, .int (x3))]) dX12_restOf_1 (Nat.le_of_ble_eq_true rfl) rfl ?_
  refine aj_iconst (v := (0 : Int32)) dX12_restOf_3 (by decide) ?_
  refine aj_istore (ls2 := [(5, .int ((0 : Int32))), (4, .int ((0 : Int32))), (0, .ref (p0)), (1, .int (x1)), (2, .int (x2)), (3, .int (x3))]) dX12_restOf_4 (Nat.le_of_ble_eq_true rfl) rfl ?_
  refine AJ.sub [2, 3, 4, 5, 1, 0] rfl ?_
  exact t_X12_restOf_6 w S zfu (p0) (x1) (x2) (x3) ((0 : Int32)) ((0 : Int32)) M
def gX12_areTwo (S : List (Nat × Nat)) (p0 : Nat) (x1 : Int32) (x2 : Int32) (M : zM) : Option Int32 := zrc S (p0) 12 66 ((gX12_isTrade S (p0) (x1) M).bind (fun v1 => (if v1 = 0 then some ((0 : Int32)) else zrc S (p0) 12 66 ((gX12_isTrade S (p0) (x2) M).bind (fun v2 => (if v2 = 0 then some ((0 : Int32)) else (if x1 = x2 then some ((0 : Int32)) else some ((1 : Int32)))))))))
set_option maxHeartbeats 4000000 in
set_option maxRecDepth 100000 in
theorem c_X12_areTwo (w : zWd) (S : List (Nat × Nat)) (p0 : Nat) (x1 : Int32) (x2 : Int32) (M : zM) : CT (zfI S M) w 2 mX12_areTwo [.ref (p0), .int (x1), .int (x2)] (S, M) (gX12_areTwo S p0 x1 x2 M) := by
  refine CT.of (by decide) (Nat.le_of_ble_eq_true rfl) ?_
  show AJ _ _ _ _ 0 [(0, .ref (p0)), (1, .int (x1)), (2, .int (x2))] [] _ _
  unfold gX12_areTwo
  refine aj_aload_n (0) dX12_areTwo_0 rfl rfl ?_
  refine aj_iload_n (1) dX12_areTwo_1 rfl rfl ?_
  refine rV_I (as := [.int (x1)]) (c_X12_isTrade w S _ _ _) mv_X12_isTrade rfl zg_1694 (by decide) (Nat.le_of_ble_eq_true rfl) dX12_areTwo_2 (fun v1 => ?_)
  refine aj_if_eq (tgt := 25) dX12_areTwo_5 (by decide) (fun h => ?_) (fun h => ?_)
  · refine aj_iconst (v := (0 : Int32)) dX12_areTwo_25 (by decide) ?_
    exact aj_iret dX12_areTwo_26 rfl (by decide +kernel) rfl
  refine aj_aload_n (0) dX12_areTwo_8 rfl rfl ?_
  refine aj_iload_n (2) dX12_areTwo_9 rfl rfl ?_
  refine rV_I (as := [.int (x2)]) (c_X12_isTrade w S _ _ _) mv_X12_isTrade rfl zg_1694 (by decide) (Nat.le_of_ble_eq_true rfl) dX12_areTwo_10 (fun v2 => ?_)
  refine aj_if_eq (tgt := 25) dX12_areTwo_13 (by decide) (fun h => ?_) (fun h => ?_)
  · refine aj_iconst (v := (0 : Int32)) dX12_areTwo_25 (by decide) ?_
    exact aj_iret dX12_areTwo_26 rfl (by decide +kernel) rfl
  refine aj_iload_n (1) dX12_areTwo_16 rfl rfl ?_
  refine aj_iload_n (2) dX12_areTwo_17 rfl rfl ?_
  refine aj_icmp_eq (tgt := 25) dX12_areTwo_18 (by decide) (fun h => ?_) (fun h => ?_)
  · refine aj_iconst (v := (0 : Int32)) dX12_areTwo_25 (by decide) ?_
    exact aj_iret dX12_areTwo_26 rfl (by decide +kernel) rfl
  refine aj_iconst (v := (1 : Int32)) dX12_areTwo_21 (by decide) ?_
  refine aj_goto (tgt := 26) dX12_areTwo_22 (by decide) ?_
  exact aj_iret dX12_areTwo_26 rfl (by decide +kernel) rfl
def gX12_rests (S : List (Nat × Nat)) (p0 : Nat) (x1 : Int32) (x2 : Int32) (M : zM) : Option (Int32 × zM) := zpI S M (p0) 12 66 0 ((0 : Int32)) (fun M1 => zrc S (p0) 12 66 ((gX12_areTwo S (p0) (x1) (x2) M1).bind (fun v2 => (if v2 = 0 then some ((-1 : Int32), M1) else zrc S (p0) 12 66 ((gX12_restOf S (p0) (x1) (x2) ((-1 : Int32)) M1).bind (fun v3 => some (v3, M1)))))))
set_option maxHeartbeats 4000000 in
set_option maxRecDepth 100000 in
theorem c_X12_rests (w : zWd) (S : List (Nat × Nat)) (p0 : Nat) (x1 : Int32) (x2 : Int32) (M : zM) : CT (zfIM S) w 5 mX12_rests [.ref (p0), .int (x1), .int (x2)] (S, M) (gX12_rests S p0 x1 x2 M) := by
  refine CT.of (by decide) (Nat.le_of_ble_eq_true rfl) ?_
  show AJ _ _ _ _ 0 [(0, .ref (p0)), (1, .int (x1)), (2, .int (x2))] [] _ _
  unfold gX12_rests
  refine aj_aload_n (0) dX12_rests_0 rfl rfl ?_
  refine aj_iconst (v := (0 : Int32)) dX12_rests_1 (by decide) ?_
  refine r_putI (TX := TX12) zc12 (by decide) rfl rfl rfl rfl (Or.inl zg_1350) dX12_rests_2 (fun M1 => ?_)
  refine aj_aload_n (0) dX12_rests_5 rfl rfl ?_
  refine aj_iload_n (1) dX12_rests_6 rfl rfl ?_
  refine aj_iload_n (2) dX12_rests_7 rfl rfl ?_
  refine rV_I (as := [.int (x1), .int (x2)]) (c_X12_areTwo w S _ _ _ _) mv_X12_areTwo rfl zg_1929 (by decide) (Nat.le_of_ble_eq_true rfl) dX12_rests_8 (fun v2 => ?_)
  refine aj_if_eq (tgt := 24) dX12_rests_11 (by decide) (fun h => ?_) (fun h => ?_)
  · refine aj_iconst (v := (-1 : Int32)) dX12_rests_24 (by decide) ?_
    exact aj_iret dX12_rests_25 rfl rfl rfl
  refine aj_aload_n (0) dX12_rests_14 rfl rfl ?_
  refine aj_iload_n (1) dX12_rests_15 rfl rfl ?_
  refine aj_iload_n (2) dX12_rests_16 rfl rfl ?_
  refine aj_iconst (v := (-1 : Int32)) dX12_rests_17 (by decide) ?_
  refine rV_I (as := [.int (x1), .int (x2), .int ((-1 : Int32))]) (c_X12_restOf w S _ _ _ _ _) mv_X12_restOf rfl zg_1933 (by decide) (Nat.le_of_ble_eq_true rfl) dX12_rests_18 (fun v3 => ?_)
  refine aj_goto (tgt := 25) dX12_rests_21 (by decide) ?_
  exact aj_iret dX12_rests_25 rfl rfl rfl
def gX12_rest (S : List (Nat × Nat)) (p0 : Nat) (x1 : Int32) (x2 : Int32) (x3 : Int32) (M : zM) : Option (Int32 × zM) := zpI S M (p0) 12 66 0 ((0 : Int32)) (fun M1 => zrc S (p0) 12 66 ((gX12_areTwo S (p0) (x1) (x2) M1).bind (fun v2 => (if v2 = 0 then some ((-1 : Int32), M1) else (if x3 < 0 then some ((-1 : Int32), M1) else zrc S (p0) 12 66 ((gX12_restOf S (p0) (x1) (x2) (x3) M1).bind (fun v3 => some (v3, M1))))))))
set_option maxHeartbeats 4000000 in
set_option maxRecDepth 100000 in
theorem c_X12_rest (w : zWd) (S : List (Nat × Nat)) (p0 : Nat) (x1 : Int32) (x2 : Int32) (x3 : Int32) (M : zM) : CT (zfIM S) w 5 mX12_rest [.ref (p0), .int (x1), .int (x2), .int (x3)] (S, M) (gX12_rest S p0 x1 x2 x3 M) := by
  refine CT.of (by decide) (Nat.le_of_ble_eq_true rfl) ?_
  show AJ _ _ _ _ 0 [(0, .ref (p0)), (1, .int (x1)), (2, .int (x2)), (3, .int (x3))] [] _ _
  unfold gX12_rest
  refine aj_aload_n (0) dX12_rest_0 rfl rfl ?_
  refine aj_iconst (v := (0 : Int32)) dX12_rest_1 (by decide) ?_
  refine r_putI (TX := TX12) zc12 (by decide) rfl rfl rfl rfl (Or.inl zg_1350) dX12_rest_2 (fun M1 => ?_)
  refine aj_aload_n (0) dX12_rest_5 rfl rfl ?_
  refine aj_iload_n (1) dX12_rest_6 rfl rfl ?_
  refine aj_iload_n (2) dX12_rest_7 rfl rfl ?_
  refine rV_I (as := [.int (x1), .int (x2)]) (c_X12_areTwo w S _ _ _ _) mv_X12_areTwo rfl zg_1929 (by decide) (Nat.le_of_ble_eq_true rfl) dX12_rest_8 (fun v2 => ?_)
  refine aj_if_eq (tgt := 28) dX12_rest_11 (by decide) (fun h => ?_) (fun h => ?_)
  · refine aj_iconst (v := (-1 : Int32)) dX12_rest_28 (by decide) ?_
    exact aj_iret dX12_rest_29 rfl rfl rfl
  refine aj_iload_n (3) dX12_rest_14 rfl rfl ?_
  refine aj_if_lt (tgt := 28) dX12_rest_15 (by decide) (fun h => ?_) (fun h => ?_)
  · refine aj_iconst (v := (-1 : Int32)) dX12_rest_28 (by decide) ?_
    exact aj_iret dX12_rest_29 rfl rfl rfl
  refine aj_aload_n (0) dX12_rest_18 rfl rfl ?_
  refine aj_iload_n (1) dX12_rest_19 rfl rfl ?_
  refine aj_iload_n (2) dX12_rest_20 rfl rfl ?_
  refine aj_iload_n (3) dX12_rest_21 rfl rfl ?_
  refine rV_I (as := [.int (x1), .int (x2), .int (x3)]) (c_X12_restOf w S _ _ _ _ _) mv_X12_restOf rfl zg_1933 (by decide) (Nat.le_of_ble_eq_true rfl) dX12_rest_22 (fun v3 => ?_)
  refine aj_goto (tgt := 29) dX12_rest_25 (by decide) ?_
  exact aj_iret dX12_rest_29 rfl rfl rfl
def gX12_sure_77 (S : List (Nat × Nat)) : Nat → Int32 → Int64 → Int64 → Int64 → Int64 → zM → Option (Int64 × zM)
  | 0 => fun _ _ _ _ _ _ => none
  | n + 1 => fun x2 l3 l5 l7 l9 M => (if (lg_cmp l9 (0 : Int64)) = 0 then (if x2 = 0 then (if l7 = 0 then none else some ((l3 / l7), M)) else (if l7 = 0 then none else some ((l5 / l7), M))) else (if l9 = 0 then none else (gX12_sure_77 S   n) (x2) (l3) (l5) (l9) ((l7 - l7 / l9 * l9)) M))
set_option maxHeartbeats 4000000 in
set_option maxRecDepth 100000 in
theorem t_X12_sure_77 (w : zWd) (S : List (Nat × Nat)) (fu : Nat) : ∀ (x2 : Int32) (l3 : Int64) (l5 : Int64) (l7 : Int64) (l9 : Int64) (M : zM), AJ (zfJM S) w 1 mX12_sure 77 [(2, .int (x2)), (3, .long (l3)), (5, .long (l5)), (7, .long (l7)), (9, .long (l9))] [] (S, M) (gX12_sure_77 S fu x2 l3 l5 l7 l9 M) := by
  induction fu with
  | zero => intro x2 l3 l5 l7 l9 M; exact AJ.none
  | succ n ih =>
    intro x2 l3 l5 l7 l9 M
    unfold gX12_sure_77
    refine aj_lload (4) dX12_sure_77 rfl ?_
    refine aj_lconst (v := (0 : Int64)) dX12_sure_79 (by decide) ?_
    refine aj_lcmp dX12_sure_80 ?_
    refine aj_if_eq (tgt := 102) dX12_sure_81 (by decide) (fun h => ?_) (fun h => ?_)
    · refine aj_iload_n (0) dX12_sure_102 rfl rfl ?_
      refine aj_if_ne (tgt := 113) dX12_sure_103 (by decide) (fun h => ?_) (fun h => ?_)
      · refine aj_lload (2) dX12_sure_113 rfl ?_
        refine aj_lload (3) dX12_sure_115 rfl ?_
        refine aj_ldiv dX12_sure_117 ?_
        exact aj_lret dX12_sure_118 rfl rfl
      refine aj_lload_n (1) dX12_sure_106 rfl rfl ?_
      refine aj_lload (3) dX12_sure_107 rfl ?_
      refine aj_ldiv dX12_sure_109 ?_
      refine aj_goto (tgt := 118) dX12_sure_110 (by decide) ?_
      exact aj_lret dX12_sure_118 rfl rfl
    refine aj_lload (3) dX12_sure_84 rfl ?_
    refine aj_lload (4) dX12_sure_86 rfl ?_
    refine aj_lrem dX12_sure_88 ?_
    refine aj_lstore (ls2 := [(11, .long ((l7 - l7 / l9 * l9))), (2, .int (x2)), (3, .long (l3)), (5, .long (l5)), (7, .long (l7)), (9, .long (l9))]) dX12_sure_89 (Nat.le_of_ble_eq_true rfl) rfl ?_
    refine aj_lload (5) dX12_sure_91 rfl ?_
    refine aj_lstore (ls2 := [(7, .long (l9)), (11, .long ((l7 - l7 / l9 * l9))), (2, .int (x2)), (3, .long (l3)), (5, .long (l5)), (9, .long (l9))]) dX12_sure_93 (Nat.le_of_ble_eq_true rfl) rfl ?_
    refine aj_lload (1) dX12_sure_95 rfl ?_
    refine aj_lstore (ls2 := [(9, .long ((l7 - l7 / l9 * l9))), (7, .long (l9)), (11, .long ((l7 - l7 / l9 * l9))), (2, .int (x2)), (3, .long (l3)), (5, .long (l5))]) dX12_sure_97 (Nat.le_of_ble_eq_true rfl) rfl ?_
    refine aj_goto (tgt := 77) dX12_sure_99 (by decide) ?_
    refine AJ.sub [3, 4, 5, 1, 0] rfl ?_
    exact ih (x2) (l3) (l5) (l9) ((l7 - l7 / l9 * l9)) M
def gX12_sure_36 (S : List (Nat × Nat)) : Nat → Nat → Int32 → Int32 → Int64 → Int64 → Int32 → zM → Option (Int64 × zM)
  | 0 => fun _ _ _ _ _ _ _ => none
  | n + 1 => fun p0 x1 x2 l3 l5 x7 M => (if x1 ≤ x7 then gX12_sure_77 S zfu (x2) (l3) (l5) (l3) (l5) M else zgR S M (p0) 12 66 3 (fun r1 => zaI S M 100 (r1) ((4 : Int32)) (fun v2 => (gX12_sure_36 S   n) (p0) (x1) (x2) ((l3 * ((100 : Int64) - (v2).toInt64))) ((l5 * (100 : Int64))) ((x7 + (1 : Int32))) M)))
set_option maxHeartbeats 4000000 in
set_option maxRecDepth 100000 in
theorem t_X12_sure_36 (w : zWd) (S : List (Nat × Nat)) (fu : Nat) : ∀ (p0 : Nat) (x1 : Int32) (x2 : Int32) (l3 : Int64) (l5 : Int64) (x7 : Int32) (M : zM), AJ (zfJM S) w 1 mX12_sure 36 [(0, .ref (p0)), (1, .int (x1)), (2, .int (x2)), (3, .long (l3)), (5, .long (l5)), (7, .int (x7))] [] (S, M) (gX12_sure_36 S fu p0 x1 x2 l3 l5 x7 M) := by
  induction fu with
  | zero => intro p0 x1 x2 l3 l5 x7 M; exact AJ.none
  | succ n ih =>
    intro p0 x1 x2 l3 l5 x7 M
    unfold gX12_sure_36
    refine aj_iload (5) dX12_sure_36 rfl ?_
    refine aj_iload_n (1) dX12_sure_38 rfl rfl ?_
    refine aj_icmp_ge (tgt := 70) dX12_sure_39 (by decide) (fun h => ?_) (fun h => ?_)
    · refine aj_lload_n (3) dX12_sure_70 rfl rfl ?_
      refine aj_lstore (ls2 := [(7, .long (l3)), (0, .ref (p0)), (1, .int (x1)), (2, .int (x2)), (3, .long (l3)), (5, .long (l5))]) dX12_sure_71 (Nat.le_of_ble_eq_true rfl) rfl ?_
      refine aj_lload (5) dX12_sure_73 rfl ?_
      refine aj_lstore (ls2 := [(9, .long (l5)), (7, .long (l3)), (0, .ref (p0)), (1, .int (x1)), (2, .int (x2)), (3, .long (l3)), (5, .long (l5))]) dX12_sure_75 (Nat.le_of_ble_eq_true rfl) rfl ?_
      refine AJ.sub [4, 5, 6, 1, 0] rfl ?_
      exact t_X12_sure_77 w S zfu (x2) (l3) (l5) (l3) (l5) M
    refine aj_lload_n (3) dX12_sure_42 rfl rfl ?_
    refine aj_ldc2 (v := (100 : Int64)) dX12_sure_43 zg_1954 ?_
    refine aj_aload_n (0) dX12_sure_46 rfl rfl ?_
    refine aj_getR (TX := TX12) zc12 (by decide) rfl (Or.inl zg_1353) dX12_sure_47 (fun r1 => ?_)
    refine aj_iconst (v := (4 : Int32)) dX12_sure_50 (by decide) ?_
    refine r_iald dX12_sure_51 (fun v2 => ?_)
    refine aj_i2l dX12_sure_52 ?_
    refine aj_lsub dX12_sure_53 ?_
    refine aj_lmul dX12_sure_54 ?_
    refine aj_lstore_n (ls2 := [(3, .long ((l3 * ((100 : Int64) - (v2).toInt64)))), (0, .ref (p0)), (1, .int (x1)), (2, .int (x2)), (5, .long (l5)), (7, .int (x7))]) dX12_sure_55 rfl (Nat.le_of_ble_eq_true rfl) rfl ?_
    refine aj_lload (4) dX12_sure_56 rfl ?_
    refine aj_ldc2 (v := (100 : Int64)) dX12_sure_58 zg_1954 ?_
    refine aj_lmul dX12_sure_61 ?_
    refine aj_lstore (ls2 := [(5, .long ((l5 * (100 : Int64)))), (3, .long ((l3 * ((100 : Int64) - (v2).toInt64)))), (0, .ref (p0)), (1, .int (x1)), (2, .int (x2)), (7, .int (x7))]) dX12_sure_62 (Nat.le_of_ble_eq_true rfl) rfl ?_
    refine aj_iinc (j := 5) (v := (x7 + (1 : Int32))) (ls2 := [(7, .int ((x7 + (1 : Int32)))), (5, .long ((l5 * (100 : Int64)))), (3, .long ((l3 * ((100 : Int64) - (v2).toInt64)))), (0, .ref (p0)), (1, .int (x1)), (2, .int (x2))]) dX12_sure_64 rfl rfl (Nat.le_of_ble_eq_true rfl) rfl ?_
    refine aj_goto (tgt := 36) dX12_sure_67 (by decide) ?_
    refine AJ.sub [3, 4, 5, 2, 1, 0] rfl ?_
    exact ih (p0) (x1) (x2) ((l3 * ((100 : Int64) - (v2).toInt64))) ((l5 * (100 : Int64))) ((x7 + (1 : Int32))) M
def gX12_sure (S : List (Nat × Nat)) (p0 : Nat) (x1 : Int32) (x2 : Int32) (M : zM) : Option (Int64 × zM) := zpI S M (p0) 12 66 0 ((0 : Int32)) (fun M1 => (if x1 < 0 then some ((-1 : Int64), M1) else (if (6 : Int32) < x1 then some ((-1 : Int64), M1) else (if x2 < 0 then some ((-1 : Int64), M1) else (if x2 ≤ (1 : Int32) then gX12_sure_36 S zfu (p0) (x1) (x2) ((1 : Int64)) ((1 : Int64)) ((0 : Int32)) M1 else some ((-1 : Int64), M1))))))
set_option maxHeartbeats 4000000 in
set_option maxRecDepth 100000 in
theorem c_X12_sure (w : zWd) (S : List (Nat × Nat)) (p0 : Nat) (x1 : Int32) (x2 : Int32) (M : zM) : CT (zfJM S) w 1 mX12_sure [.ref (p0), .int (x1), .int (x2)] (S, M) (gX12_sure S p0 x1 x2 M) := by
  refine CT.of (by decide) (Nat.le_of_ble_eq_true rfl) ?_
  show AJ _ _ _ _ 0 [(0, .ref (p0)), (1, .int (x1)), (2, .int (x2))] [] _ _
  unfold gX12_sure
  refine aj_aload_n (0) dX12_sure_0 rfl rfl ?_
  refine aj_iconst (v := (0 : Int32)) dX12_sure_1 (by decide) ?_
  refine r_putI (TX := TX12) zc12 (by decide) rfl rfl rfl rfl (Or.inl zg_1350) dX12_sure_2 (fun M1 => ?_)
  refine aj_iload_n (1) dX12_sure_5 rfl rfl ?_
  refine aj_if_lt (tgt := 24) dX12_sure_6 (by decide) (fun h => ?_) (fun h => ?_)
  · refine aj_ldc2 (v := (-1 : Int64)) dX12_sure_24 zg_1953 ?_
    exact aj_lret dX12_sure_27 rfl rfl
  refine aj_iload_n (1) dX12_sure_9 rfl rfl ?_
  refine aj_bipush (v := (6 : Int32)) dX12_sure_10 (by decide) ?_
  refine aj_icmp_gt (tgt := 24) dX12_sure_12 (by decide) (fun h => ?_) (fun h => ?_)
  · refine aj_ldc2 (v := (-1 : Int64)) dX12_sure_24 zg_1953 ?_
    exact aj_lret dX12_sure_27 rfl rfl
  refine aj_iload_n (2) dX12_sure_15 rfl rfl ?_
  refine aj_if_lt (tgt := 24) dX12_sure_16 (by decide) (fun h => ?_) (fun h => ?_)
  · refine aj_ldc2 (v := (-1 : Int64)) dX12_sure_24 zg_1953 ?_
    exact aj_lret dX12_sure_27 rfl rfl
  refine aj_iload_n (2) dX12_sure_19 rfl rfl ?_
  refine aj_iconst (v := (1 : Int32)) dX12_sure_20 (by decide) ?_
  refine aj_icmp_le (tgt := 28) dX12_sure_21 (by decide) (fun h => ?_) (fun h => ?_)
  · refine aj_lconst (v := (1 : Int64)) dX12_sure_28 (by decide) ?_
    refine aj_lstore_n (ls2 := [(3, .long ((1 : Int64))), (0, .ref (p0)), (1, .int (x1)), (2, .int (x2))]) dX12_sure_29 rfl (Nat.le_of_ble_eq_true rfl) rfl ?_
    refine aj_lconst (v := (1 : Int64)) dX12_sure_30 (by decide) ?_
    refine aj_lstore (ls2 := [(5, .long ((1 : Int64))), (3, .long ((1 : Int64))), (0, .ref (p0)), (1, .int (x1)), (2, .int (x2))]) dX12_sure_31 (Nat.le_of_ble_eq_true rfl) rfl ?_
    refine aj_iconst (v := (0 : Int32)) dX12_sure_33 (by decide) ?_
    refine aj_istore (ls2 := [(7, .int ((0 : Int32))), (5, .long ((1 : Int64))), (3, .long ((1 : Int64))), (0, .ref (p0)), (1, .int (x1)), (2, .int (x2))]) dX12_sure_34 (Nat.le_of_ble_eq_true rfl) rfl ?_
    refine AJ.sub [3, 4, 5, 2, 1, 0] rfl ?_
    exact t_X12_sure_36 w S zfu (p0) (x1) (x2) ((1 : Int64)) ((1 : Int64)) ((0 : Int32)) M1
  refine aj_ldc2 (v := (-1 : Int64)) dX12_sure_24 zg_1953 ?_
  exact aj_lret dX12_sure_27 rfl rfl
def gX12_note (S : List (Nat × Nat)) (p0 : Nat) (x1 : Int32) (x2 : Int32) (x3 : Int32) (M : zM) : Option (Int32 × zM) := zpI S M (p0) 12 66 0 ((0 : Int32)) (fun M1 => (if x1 < (1 : Int32) then some ((-1 : Int32), M1) else (if (60 : Int32) < x1 then some ((-1 : Int32), M1) else (if x2 < 0 then some ((-1 : Int32), M1) else (if (24 : Int32) < x2 then some ((-1 : Int32), M1) else zgI S M1 (p0) 12 66 58 (fun v2 => (if v2 = (24 : Int32) then some ((-1 : Int32), M1) else zgR S M1 (p0) 12 66 60 (fun r3 => zgI S M1 (p0) 12 66 58 (fun v4 => zbI S M1 (r3) (v4) (x1) (fun M5 => zgR S M5 (p0) 12 66 61 (fun r6 => zgI S M5 (p0) 12 66 58 (fun v7 => zbI S M5 (r6) (v7) (x2) (fun M8 => zgR S M8 (p0) 12 66 62 (fun r9 => zgI S M8 (p0) 12 66 58 (fun v10 => zbZ S M8 (r9) (v10) (x3) (fun M11 => zgR S M11 (p0) 12 66 63 (fun r12 => zgI S M11 (p0) 12 66 58 (fun v13 => zbI S M11 (r12) (v13) ((-1 : Int32)) (fun M14 => zgI S M14 (p0) 12 66 58 (fun v15 => zpI S M14 (p0) 12 66 58 ((v15 + (1 : Int32))) (fun M16 => zgI S M16 (p0) 12 66 58 (fun v17 => some ((v17 - (1 : Int32)), M16)))))))))))))))))))))))
set_option maxHeartbeats 4000000 in
set_option maxRecDepth 100000 in
theorem c_X12_note (w : zWd) (S : List (Nat × Nat)) (p0 : Nat) (x1 : Int32) (x2 : Int32) (x3 : Int32) (M : zM) : CT (zfIM S) w 1 mX12_note [.ref (p0), .int (x1), .int (x2), .int (x3)] (S, M) (gX12_note S p0 x1 x2 x3 M) := by
  refine CT.of (by decide) (Nat.le_of_ble_eq_true rfl) ?_
  show AJ _ _ _ _ 0 [(0, .ref (p0)), (1, .int (x1)), (2, .int (x2)), (3, .int (x3))] [] _ _
  unfold gX12_note
  refine aj_aload_n (0) dX12_note_0 rfl rfl ?_
  refine aj_iconst (v := (0 : Int32)) dX12_note_1 (by decide) ?_
  refine r_putI (TX := TX12) zc12 (by decide) rfl rfl rfl rfl (Or.inl zg_1350) dX12_note_2 (fun M1 => ?_)
  refine aj_iload_n (1) dX12_note_5 rfl rfl ?_
  refine aj_iconst (v := (1 : Int32)) dX12_note_6 (by decide) ?_
  refine aj_icmp_lt (tgt := 35) dX12_note_7 (by decide) (fun h => ?_) (fun h => ?_)
  · refine aj_iconst (v := (-1 : Int32)) dX12_note_35 (by decide) ?_
    exact aj_iret dX12_note_36 rfl rfl rfl
  refine aj_iload_n (1) dX12_note_10 rfl rfl ?_
  refine aj_bipush (v := (60 : Int32)) dX12_note_11 (by decide) ?_
  refine aj_icmp_gt (tgt := 35) dX12_note_13 (by decide) (fun h => ?_) (fun h => ?_)
  · refine aj_iconst (v := (-1 : Int32)) dX12_note_35 (by decide) ?_
    exact aj_iret dX12_note_36 rfl rfl rfl
  refine aj_iload_n (2) dX12_note_16 rfl rfl ?_
  refine aj_if_lt (tgt := 35) dX12_note_17 (by decide) (fun h => ?_) (fun h => ?_)
  · refine aj_iconst (v := (-1 : Int32)) dX12_note_35 (by decide) ?_
    exact aj_iret dX12_note_36 rfl rfl rfl
  refine aj_iload_n (2) dX12_note_20 rfl rfl ?_
  refine aj_bipush (v := (24 : Int32)) dX12_note_21 (by decide) ?_
  refine aj_icmp_gt (tgt := 35) dX12_note_23 (by decide) (fun h => ?_) (fun h => ?_)
  · refine aj_iconst (v := (-1 : Int32)) dX12_note_35 (by decide) ?_
    exact aj_iret dX12_note_36 rfl rfl rfl
  refine aj_aload_n (0) dX12_note_26 rfl rfl ?_
  refine r_getI (TX := TX12) zc12 (by decide) rfl (Or.inl zg_1408) dX12_note_27 (fun v2 => ?_)
  refine aj_bipush (v := (24 : Int32)) dX12_note_30 (by decide) ?_
  refine aj_icmp_ne (tgt := 37) dX12_note_32 (by decide) (fun h => ?_) (fun h => ?_)
  · refine aj_aload_n (0) dX12_note_37 rfl rfl ?_
    refine aj_getR (TX := TX12) zc12 (by decide) rfl (Or.inl zg_1410) dX12_note_38 (fun r3 => ?_)
    refine aj_aload_n (0) dX12_note_41 rfl rfl ?_
    refine r_getI (TX := TX12) zc12 (by decide) rfl (Or.inl zg_1408) dX12_note_42 (fun v4 => ?_)
    refine aj_iload_n (1) dX12_note_45 rfl rfl ?_
    refine r_iast dX12_note_46 (fun M5 => ?_)
    refine aj_aload_n (0) dX12_note_47 rfl rfl ?_
    refine aj_getR (TX := TX12) zc12 (by decide) rfl (Or.inl zg_1411) dX12_note_48 (fun r6 => ?_)
    refine aj_aload_n (0) dX12_note_51 rfl rfl ?_
    refine r_getI (TX := TX12) zc12 (by decide) rfl (Or.inl zg_1408) dX12_note_52 (fun v7 => ?_)
    refine aj_iload_n (2) dX12_note_55 rfl rfl ?_
    refine r_iast dX12_note_56 (fun M8 => ?_)
    refine aj_aload_n (0) dX12_note_57 rfl rfl ?_
    refine aj_getR (TX := TX12) zc12 (by decide) rfl (Or.inl zg_1412) dX12_note_58 (fun r9 => ?_)
    refine aj_aload_n (0) dX12_note_61 rfl rfl ?_
    refine r_getI (TX := TX12) zc12 (by decide) rfl (Or.inl zg_1408) dX12_note_62 (fun v10 => ?_)
    refine aj_iload_n (3) dX12_note_65 rfl rfl ?_
    refine r_zast dX12_note_66 (fun M11 => ?_)
    refine aj_aload_n (0) dX12_note_67 rfl rfl ?_
    refine aj_getR (TX := TX12) zc12 (by decide) rfl (Or.inl zg_1413) dX12_note_68 (fun r12 => ?_)
    refine aj_aload_n (0) dX12_note_71 rfl rfl ?_
    refine r_getI (TX := TX12) zc12 (by decide) rfl (Or.inl zg_1408) dX12_note_72 (fun v13 => ?_)
    refine aj_iconst (v := (-1 : Int32)) dX12_note_75 (by decide) ?_
    refine r_iast dX12_note_76 (fun M14 => ?_)
    refine aj_aload_n (0) dX12_note_77 rfl rfl ?_
    refine aj_dup dX12_note_78 rfl ?_
    refine r_getI (TX := TX12) zc12 (by decide) rfl (Or.inl zg_1408) dX12_note_79 (fun v15 => ?_)
    refine aj_iconst (v := (1 : Int32)) dX12_note_82 (by decide) ?_
    refine aj_iadd dX12_note_83 ?_
    refine r_putI (TX := TX12) zc12 (by decide) rfl rfl rfl rfl (Or.inl zg_1408) dX12_note_84 (fun M16 => ?_)
    refine aj_aload_n (0) dX12_note_87 rfl rfl ?_
    refine r_getI (TX := TX12) zc12 (by decide) rfl (Or.inl zg_1408) dX12_note_88 (fun v17 => ?_)
    refine aj_iconst (v := (1 : Int32)) dX12_note_91 (by decide) ?_
    refine aj_isub dX12_note_92 ?_
    exact aj_iret dX12_note_93 rfl rfl rfl
  refine aj_iconst (v := (-1 : Int32)) dX12_note_35 (by decide) ?_
  exact aj_iret dX12_note_36 rfl rfl rfl
def gX12_strike (S : List (Nat × Nat)) (p0 : Nat) (x1 : Int32) (M : zM) : Option (Int32 × zM) := zpI S M (p0) 12 66 0 ((0 : Int32)) (fun M1 => (if x1 < 0 then some ((-1 : Int32), M1) else zgI S M1 (p0) 12 66 58 (fun v2 => (if v2 ≤ x1 then some ((-1 : Int32), M1) else zgI S M1 (p0) 12 66 58 (fun v3 => (if v3 = (24 : Int32) then some ((-1 : Int32), M1) else zgR S M1 (p0) 12 66 63 (fun r4 => zgI S M1 (p0) 12 66 58 (fun v5 => zbI S M1 (r4) (v5) (x1) (fun M6 => zgI S M6 (p0) 12 66 58 (fun v7 => zpI S M6 (p0) 12 66 58 ((v7 + (1 : Int32))) (fun M8 => zgI S M8 (p0) 12 66 58 (fun v9 => some ((v9 - (1 : Int32)), M8)))))))))))))
set_option maxHeartbeats 4000000 in
set_option maxRecDepth 100000 in
theorem c_X12_strike (w : zWd) (S : List (Nat × Nat)) (p0 : Nat) (x1 : Int32) (M : zM) : CT (zfIM S) w 1 mX12_strike [.ref (p0), .int (x1)] (S, M) (gX12_strike S p0 x1 M) := by
  refine CT.of (by decide) (Nat.le_of_ble_eq_true rfl) ?_
  show AJ _ _ _ _ 0 [(0, .ref (p0)), (1, .int (x1))] [] _ _
  unfold gX12_strike
  refine aj_aload_n (0) dX12_strike_0 rfl rfl ?_
  refine aj_iconst (v := (0 : Int32)) dX12_strike_1 (by decide) ?_
  refine r_putI (TX := TX12) zc12 (by decide) rfl rfl rfl rfl (Or.inl zg_1350) dX12_strike_2 (fun M1 => ?_)
  refine aj_iload_n (1) dX12_strike_5 rfl rfl ?_
  refine aj_if_lt (tgt := 26) dX12_strike_6 (by decide) (fun h => ?_) (fun h => ?_)
  · refine aj_iconst (v := (-1 : Int32)) dX12_strike_26 (by decide) ?_
    exact aj_iret dX12_strike_27 rfl rfl rfl
  refine aj_iload_n (1) dX12_strike_9 rfl rfl ?_
  refine aj_aload_n (0) dX12_strike_10 rfl rfl ?_
  refine r_getI (TX := TX12) zc12 (by decide) rfl (Or.inl zg_1408) dX12_strike_11 (fun v2 => ?_)
  refine aj_icmp_ge (tgt := 26) dX12_strike_14 (by decide) (fun h => ?_) (fun h => ?_)
  · refine aj_iconst (v := (-1 : Int32)) dX12_strike_26 (by decide) ?_
    exact aj_iret dX12_strike_27 rfl rfl rfl
  refine aj_aload_n (0) dX12_strike_17 rfl rfl ?_
  refine r_getI (TX := TX12) zc12 (by decide) rfl (Or.inl zg_1408) dX12_strike_18 (fun v3 => ?_)
  refine aj_bipush (v := (24 : Int32)) dX12_strike_21 (by decide) ?_
  refine aj_icmp_ne (tgt := 28) dX12_strike_23 (by decide) (fun h => ?_) (fun h => ?_)
  · refine aj_aload_n (0) dX12_strike_28 rfl rfl ?_
    refine aj_getR (TX := TX12) zc12 (by decide) rfl (Or.inl zg_1413) dX12_strike_29 (fun r4 => ?_)
    refine aj_aload_n (0) dX12_strike_32 rfl rfl ?_
    refine r_getI (TX := TX12) zc12 (by decide) rfl (Or.inl zg_1408) dX12_strike_33 (fun v5 => ?_)
    refine aj_iload_n (1) dX12_strike_36 rfl rfl ?_
    refine r_iast dX12_strike_37 (fun M6 => ?_)
    refine aj_aload_n (0) dX12_strike_38 rfl rfl ?_
    refine aj_dup dX12_strike_39 rfl ?_
    refine r_getI (TX := TX12) zc12 (by decide) rfl (Or.inl zg_1408) dX12_strike_40 (fun v7 => ?_)
    refine aj_iconst (v := (1 : Int32)) dX12_strike_43 (by decide) ?_
    refine aj_iadd dX12_strike_44 ?_
    refine r_putI (TX := TX12) zc12 (by decide) rfl rfl rfl rfl (Or.inl zg_1408) dX12_strike_45 (fun M8 => ?_)
    refine aj_aload_n (0) dX12_strike_48 rfl rfl ?_
    refine r_getI (TX := TX12) zc12 (by decide) rfl (Or.inl zg_1408) dX12_strike_49 (fun v9 => ?_)
    refine aj_iconst (v := (1 : Int32)) dX12_strike_52 (by decide) ?_
    refine aj_isub dX12_strike_53 ?_
    exact aj_iret dX12_strike_54 rfl rfl rfl
  refine aj_iconst (v := (-1 : Int32)) dX12_strike_26 (by decide) ?_
  exact aj_iret dX12_strike_27 rfl rfl rfl
def gX12_toldBy (S : List (Nat × Nat)) (p0 : Nat) (x1 : Int32) (M : zM) : Option (Int32 × zM) := zpI S M (p0) 12 66 0 ((0 : Int32)) (fun M1 => (if x1 < (-1 : Int32) then some ((0 : Int32), M1) else zgI S M1 (p0) 12 66 58 (fun v2 => (if x1 ≤ v2 then zpI S M1 (p0) 12 66 59 (x1) (fun M3 => some ((1 : Int32), M3)) else some ((0 : Int32), M1)))))
set_option maxHeartbeats 4000000 in
set_option maxRecDepth 100000 in
theorem c_X12_toldBy (w : zWd) (S : List (Nat × Nat)) (p0 : Nat) (x1 : Int32) (M : zM) : CT (zfIM S) w 1 mX12_toldBy [.ref (p0), .int (x1)] (S, M) (gX12_toldBy S p0 x1 M) := by
  refine CT.of (by decide) (Nat.le_of_ble_eq_true rfl) ?_
  show AJ _ _ _ _ 0 [(0, .ref (p0)), (1, .int (x1))] [] _ _
  unfold gX12_toldBy
  refine aj_aload_n (0) dX12_toldBy_0 rfl rfl ?_
  refine aj_iconst (v := (0 : Int32)) dX12_toldBy_1 (by decide) ?_
  refine r_putI (TX := TX12) zc12 (by decide) rfl rfl rfl rfl (Or.inl zg_1350) dX12_toldBy_2 (fun M1 => ?_)
  refine aj_iload_n (1) dX12_toldBy_5 rfl rfl ?_
  refine aj_iconst (v := (-1 : Int32)) dX12_toldBy_6 (by decide) ?_
  refine aj_icmp_lt (tgt := 18) dX12_toldBy_7 (by decide) (fun h => ?_) (fun h => ?_)
  · refine aj_iconst (v := (0 : Int32)) dX12_toldBy_18 (by decide) ?_
    exact aj_iret dX12_toldBy_19 rfl (by decide +kernel) rfl
  refine aj_iload_n (1) dX12_toldBy_10 rfl rfl ?_
  refine aj_aload_n (0) dX12_toldBy_11 rfl rfl ?_
  refine r_getI (TX := TX12) zc12 (by decide) rfl (Or.inl zg_1408) dX12_toldBy_12 (fun v2 => ?_)
  refine aj_icmp_le (tgt := 20) dX12_toldBy_15 (by decide) (fun h => ?_) (fun h => ?_)
  · refine aj_aload_n (0) dX12_toldBy_20 rfl rfl ?_
    refine aj_iload_n (1) dX12_toldBy_21 rfl rfl ?_
    refine r_putI (TX := TX12) zc12 (by decide) rfl rfl rfl rfl (Or.inl zg_1409) dX12_toldBy_22 (fun M3 => ?_)
    refine aj_iconst (v := (1 : Int32)) dX12_toldBy_25 (by decide) ?_
    exact aj_iret dX12_toldBy_26 rfl (by decide +kernel) rfl
  refine aj_iconst (v := (0 : Int32)) dX12_toldBy_18 (by decide) ?_
  exact aj_iret dX12_toldBy_19 rfl (by decide +kernel) rfl
def gX12_knownMany (S : List (Nat × Nat)) (p0 : Nat) (M : zM) : Option Int32 := zgI S M (p0) 12 66 59 (fun v1 => (if v1 = (-1 : Int32) then zgI S M (p0) 12 66 58 (fun v3 => some (v3)) else zgI S M (p0) 12 66 59 (fun v2 => some (v2))))
set_option maxHeartbeats 4000000 in
set_option maxRecDepth 100000 in
theorem c_X12_knownMany (w : zWd) (S : List (Nat × Nat)) (p0 : Nat) (M : zM) : CT (zfI S M) w 1 mX12_knownMany [.ref (p0)] (S, M) (gX12_knownMany S p0 M) := by
  refine CT.of (by decide) (Nat.le_of_ble_eq_true rfl) ?_
  show AJ _ _ _ _ 0 [(0, .ref (p0))] [] _ _
  unfold gX12_knownMany
  refine aj_aload_n (0) dX12_knownMany_0 rfl rfl ?_
  refine r_getI (TX := TX12) zc12 (by decide) rfl (Or.inl zg_1409) dX12_knownMany_1 (fun v1 => ?_)
  refine aj_iconst (v := (-1 : Int32)) dX12_knownMany_4 (by decide) ?_
  refine aj_icmp_ne (tgt := 15) dX12_knownMany_5 (by decide) (fun h => ?_) (fun h => ?_)
  · refine aj_aload_n (0) dX12_knownMany_15 rfl rfl ?_
    refine r_getI (TX := TX12) zc12 (by decide) rfl (Or.inl zg_1409) dX12_knownMany_16 (fun v2 => ?_)
    exact aj_iret dX12_knownMany_19 rfl rfl rfl
  refine aj_aload_n (0) dX12_knownMany_8 rfl rfl ?_
  refine r_getI (TX := TX12) zc12 (by decide) rfl (Or.inl zg_1408) dX12_knownMany_9 (fun v3 => ?_)
  refine aj_goto (tgt := 19) dX12_knownMany_12 (by decide) ?_
  exact aj_iret dX12_knownMany_19 rfl rfl rfl
def gX12_isSo_2 (S : List (Nat × Nat)) : Nat → Nat → Int32 → Int32 → zM → Option Int32
  | 0 => fun _ _ _ _ => none
  | n + 1 => fun p0 x1 x2 M => zrc S (p0) 12 66 ((gX12_knownMany S (p0) M).bind (fun v1 => (if v1 ≤ x2 then some ((1 : Int32)) else zgR S M (p0) 12 66 64 (fun r2 => zaI S M 102 (r2) (x2) (fun v3 => (if v3 = 0 then zgR S M (p0) 12 66 63 (fun r4 => zaI S M 100 (r4) (x2) (fun v5 => (if v5 = (-1 : Int32) then zgR S M (p0) 12 66 60 (fun r6 => zaI S M 100 (r6) (x2) (fun v7 => (if v7 = x1 then zgR S M (p0) 12 66 39 (fun r8 => zaI S M 100 (r8) ((1 : Int32)) (fun v9 => zgR S M (p0) 12 66 61 (fun r10 => zaI S M 100 (r10) (x2) (fun v11 => (if v9 < v11 then zgR S M (p0) 12 66 62 (fun r12 => zaI S M 102 (r12) (x2) (fun v13 => (if (0 : Int32) = v13 then (gX12_isSo_2 S   n) (p0) (x1) ((x2 + (1 : Int32))) M else some ((0 : Int32))))) else zgR S M (p0) 12 66 62 (fun r14 => zaI S M 102 (r14) (x2) (fun v15 => (if (1 : Int32) = v15 then (gX12_isSo_2 S   n) (p0) (x1) ((x2 + (1 : Int32))) M else some ((0 : Int32)))))))))) else (gX12_isSo_2 S   n) (p0) (x1) ((x2 + (1 : Int32))) M))) else (gX12_isSo_2 S   n) (p0) (x1) ((x2 + (1 : Int32))) M))) else (gX12_isSo_2 S   n) (p0) (x1) ((x2 + (1 : Int32))) M))))))
set_option maxHeartbeats 4000000 in
set_option maxRecDepth 100000 in
theorem t_X12_isSo_2 (w : zWd) (S : List (Nat × Nat)) (fu : Nat) : ∀ (p0 : Nat) (x1 : Int32) (x2 : Int32) (M : zM), AJ (zfI S M) w 2 mX12_isSo 2 [(0, .ref (p0)), (1, .int (x1)), (2, .int (x2))] [] (S, M) (gX12_isSo_2 S fu p0 x1 x2 M) := by
  induction fu with
  | zero => intro p0 x1 x2 M; exact AJ.none
  | succ n ih =>
    intro p0 x1 x2 M
    unfold gX12_isSo_2
    refine aj_iload_n (2) dX12_isSo_2 rfl rfl ?_
    refine aj_aload_n (0) dX12_isSo_3 rfl rfl ?_
    refine rV_I (as := []) (c_X12_knownMany w S _ _) mv_X12_knownMany rfl zg_1975 (by decide) (Nat.le_of_ble_eq_true rfl) dX12_isSo_4 (fun v1 => ?_)
    refine aj_icmp_ge (tgt := 79) dX12_isSo_7 (by decide) (fun h => ?_) (fun h => ?_)
    · refine aj_iconst (v := (1 : Int32)) dX12_isSo_79 (by decide) ?_
      exact aj_iret dX12_isSo_80 rfl (by decide +kernel) rfl
    refine aj_aload_n (0) dX12_isSo_10 rfl rfl ?_
    refine aj_getR (TX := TX12) zc12 (by decide) rfl (Or.inl zg_1414) dX12_isSo_11 (fun r2 => ?_)
    refine aj_iload_n (2) dX12_isSo_14 rfl rfl ?_
    refine r_zald dX12_isSo_15 (fun v3 => ?_)
    refine aj_if_ne (tgt := 73) dX12_isSo_16 (by decide) (fun h => ?_) (fun h => ?_)
    · refine aj_iinc (j := 2) (v := (x2 + (1 : Int32))) (ls2 := [(2, .int ((x2 + (1 : Int32)))), (0, .ref (p0)), (1, .int (x1))]) dX12_isSo_73 rfl rfl (Nat.le_of_ble_eq_true rfl) rfl ?_
      refine aj_goto (tgt := 2) dX12_isSo_76 (by decide) ?_
      refine AJ.sub [1, 2, 0] rfl ?_
      exact ih (p0) (x1) ((x2 + (1 : Int32))) M
    refine aj_aload_n (0) dX12_isSo_19 rfl rfl ?_
    refine aj_getR (TX := TX12) zc12 (by decide) rfl (Or.inl zg_1413) dX12_isSo_20 (fun r4 => ?_)
    refine aj_iload_n (2) dX12_isSo_23 rfl rfl ?_
    refine r_iald dX12_isSo_24 (fun v5 => ?_)
    refine aj_iconst (v := (-1 : Int32)) dX12_isSo_25 (by decide) ?_
    refine aj_icmp_ne (tgt := 73) dX12_isSo_26 (by decide) (fun h => ?_) (fun h => ?_)
    · refine aj_iinc (j := 2) (v := (x2 + (1 : Int32))) (ls2 := [(2, .int ((x2 + (1 : Int32)))), (0, .ref (p0)), (1, .int (x1))]) dX12_isSo_73 rfl rfl (Nat.le_of_ble_eq_true rfl) rfl ?_
      refine aj_goto (tgt := 2) dX12_isSo_76 (by decide) ?_
      refine AJ.sub [1, 2, 0] rfl ?_
      exact ih (p0) (x1) ((x2 + (1 : Int32))) M
    refine aj_aload_n (0) dX12_isSo_29 rfl rfl ?_
    refine aj_getR (TX := TX12) zc12 (by decide) rfl (Or.inl zg_1410) dX12_isSo_30 (fun r6 => ?_)
    refine aj_iload_n (2) dX12_isSo_33 rfl rfl ?_
    refine r_iald dX12_isSo_34 (fun v7 => ?_)
    refine aj_iload_n (1) dX12_isSo_35 rfl rfl ?_
    refine aj_icmp_eq (tgt := 42) dX12_isSo_36 (by decide) (fun h => ?_) (fun h => ?_)
    · refine aj_aload_n (0) dX12_isSo_42 rfl rfl ?_
      refine aj_getR (TX := TX12) zc12 (by decide) rfl (Or.inl zg_1389) dX12_isSo_43 (fun r8 => ?_)
      refine aj_iconst (v := (1 : Int32)) dX12_isSo_46 (by decide) ?_
      refine r_iald dX12_isSo_47 (fun v9 => ?_)
      refine aj_aload_n (0) dX12_isSo_48 rfl rfl ?_
      refine aj_getR (TX := TX12) zc12 (by decide) rfl (Or.inl zg_1411) dX12_isSo_49 (fun r10 => ?_)
      refine aj_iload_n (2) dX12_isSo_52 rfl rfl ?_
      refine r_iald dX12_isSo_53 (fun v11 => ?_)
      refine aj_icmp_lt (tgt := 61) dX12_isSo_54 (by decide) (fun h => ?_) (fun h => ?_)
      · refine aj_iconst (v := (0 : Int32)) dX12_isSo_61 (by decide) ?_
        refine aj_aload_n (0) dX12_isSo_62 rfl rfl ?_
        refine aj_getR (TX := TX12) zc12 (by decide) rfl (Or.inl zg_1412) dX12_isSo_63 (fun r12 => ?_)
        refine aj_iload_n (2) dX12_isSo_66 rfl rfl ?_
        refine r_zald dX12_isSo_67 (fun v13 => ?_)
        refine aj_icmp_eq (tgt := 73) dX12_isSo_68 (by decide) (fun h => ?_) (fun h => ?_)
        · refine aj_iinc (j := 2) (v := (x2 + (1 : Int32))) (ls2 := [(2, .int ((x2 + (1 : Int32)))), (0, .ref (p0)), (1, .int (x1))]) dX12_isSo_73 rfl rfl (Nat.le_of_ble_eq_true rfl) rfl ?_
          refine aj_goto (tgt := 2) dX12_isSo_76 (by decide) ?_
          refine AJ.sub [1, 2, 0] rfl ?_
          exact ih (p0) (x1) ((x2 + (1 : Int32))) M
        refine aj_iconst (v := (0 : Int32)) dX12_isSo_71 (by decide) ?_
        exact aj_iret dX12_isSo_72 rfl (by decide +kernel) rfl
      refine aj_iconst (v := (1 : Int32)) dX12_isSo_57 (by decide) ?_
      refine aj_goto (tgt := 62) dX12_isSo_58 (by decide) ?_
      refine aj_aload_n (0) dX12_isSo_62 rfl rfl ?_
      refine aj_getR (TX := TX12) zc12 (by decide) rfl (Or.inl zg_1412) dX12_isSo_63 (fun r14 => ?_)
      refine aj_iload_n (2) dX12_isSo_66 rfl rfl ?_
      refine r_zald dX12_isSo_67 (fun v15 => ?_)
      refine aj_icmp_eq (tgt := 73) dX12_isSo_68 (by decide) (fun h => ?_) (fun h => ?_)
      · refine aj_iinc (j := 2) (v := (x2 + (1 : Int32))) (ls2 := [(2, .int ((x2 + (1 : Int32)))), (0, .ref (p0)), (1, .int (x1))]) dX12_isSo_73 rfl rfl (Nat.le_of_ble_eq_true rfl) rfl ?_
        refine aj_goto (tgt := 2) dX12_isSo_76 (by decide) ?_
        refine AJ.sub [1, 2, 0] rfl ?_
        exact ih (p0) (x1) ((x2 + (1 : Int32))) M
      refine aj_iconst (v := (0 : Int32)) dX12_isSo_71 (by decide) ?_
      exact aj_iret dX12_isSo_72 rfl (by decide +kernel) rfl
    refine aj_goto (tgt := 73) dX12_isSo_39 (by decide) ?_
    refine aj_iinc (j := 2) (v := (x2 + (1 : Int32))) (ls2 := [(2, .int ((x2 + (1 : Int32)))), (0, .ref (p0)), (1, .int (x1))]) dX12_isSo_73 rfl rfl (Nat.le_of_ble_eq_true rfl) rfl ?_
    refine aj_goto (tgt := 2) dX12_isSo_76 (by decide) ?_
    refine AJ.sub [1, 2, 0] rfl ?_
    exact ih (p0) (x1) ((x2 + (1 : Int32))) M
def gX12_isSo (S : List (Nat × Nat)) (p0 : Nat) (x1 : Int32) (M : zM) : Option Int32 := gX12_isSo_2 S zfu (p0) (x1) ((0 : Int32)) M
set_option maxHeartbeats 4000000 in
set_option maxRecDepth 100000 in
theorem c_X12_isSo (w : zWd) (S : List (Nat × Nat)) (p0 : Nat) (x1 : Int32) (M : zM) : CT (zfI S M) w 2 mX12_isSo [.ref (p0), .int (x1)] (S, M) (gX12_isSo S p0 x1 M) := by
  refine CT.of (by decide) (Nat.le_of_ble_eq_true rfl) ?_
  show AJ _ _ _ _ 0 [(0, .ref (p0)), (1, .int (x1))] [] _ _
  unfold gX12_isSo
  refine aj_iconst (v := (0 : Int32)) dX12_isSo_0 (by decide) ?_
  refine aj_istore_n (ls2 := [(2, .int ((0 : Int32))), (0, .ref (p0)), (1, .int (x1))]) dX12_isSo_1 rfl (Nat.le_of_ble_eq_true rfl) rfl ?_
  refine AJ.sub [1, 2, 0] rfl ?_
  exact t_X12_isSo_2 w S zfu (p0) (x1) ((0 : Int32)) M
def gX12_fitsHour_7 (S : List (Nat × Nat)) : Nat → Nat → Int32 → Int32 → zM → Option (Int32 × zM)
  | 0 => fun _ _ _ _ => none
  | n + 1 => fun p0 x1 x2 M => (if x1 < x2 then some ((1 : Int32), M) else zrc S (p0) 12 66 ((gX12_passes S (p0) ((1 : Int32)) ((0 : Int32)) M).bind (fun M1 => zrc S (p0) 12 66 ((gX12_isSo S (p0) (x2) M1).bind (fun v2 => (if v2 = 0 then some ((0 : Int32), M1) else (gX12_fitsHour_7 S   n) (p0) (x1) ((x2 + (1 : Int32))) M1))))))
set_option maxHeartbeats 4000000 in
set_option maxRecDepth 100000 in
theorem t_X12_fitsHour_7 (w : zWd) (S : List (Nat × Nat)) (fu : Nat) : ∀ (p0 : Nat) (x1 : Int32) (x2 : Int32) (M : zM), AJ (zfIM S) w 8 mX12_fitsHour 7 [(0, .ref (p0)), (1, .int (x1)), (2, .int (x2))] [] (S, M) (gX12_fitsHour_7 S fu p0 x1 x2 M) := by
  induction fu with
  | zero => intro p0 x1 x2 M; exact AJ.none
  | succ n ih =>
    intro p0 x1 x2 M
    unfold gX12_fitsHour_7
    refine aj_iload_n (2) dX12_fitsHour_7 rfl rfl ?_
    refine aj_iload_n (1) dX12_fitsHour_8 rfl rfl ?_
    refine aj_icmp_gt (tgt := 34) dX12_fitsHour_9 (by decide) (fun h => ?_) (fun h => ?_)
    · refine aj_iconst (v := (1 : Int32)) dX12_fitsHour_34 (by decide) ?_
      exact aj_iret dX12_fitsHour_35 rfl (by decide +kernel) rfl
    refine aj_aload_n (0) dX12_fitsHour_12 rfl rfl ?_
    refine aj_iconst (v := (1 : Int32)) dX12_fitsHour_13 (by decide) ?_
    refine aj_iconst (v := (0 : Int32)) dX12_fitsHour_14 (by decide) ?_
    refine rV_VM (as := [.int ((1 : Int32)), .int ((0 : Int32))]) (c_X12_passes w S _ _ _ _) mv_X12_passes rfl zg_1795 (by decide) (Nat.le_of_ble_eq_true rfl) dX12_fitsHour_15 (fun M1 => ?_)
    refine aj_aload_n (0) dX12_fitsHour_18 rfl rfl ?_
    refine aj_iload_n (2) dX12_fitsHour_19 rfl rfl ?_
    refine rV_I (as := [.int (x2)]) (c_X12_isSo w S _ _ _) mv_X12_isSo rfl zg_1983 (by decide) (Nat.le_of_ble_eq_true rfl) dX12_fitsHour_20 (fun v2 => ?_)
    refine aj_if_ne (tgt := 28) dX12_fitsHour_23 (by decide) (fun h => ?_) (fun h => ?_)
    · refine aj_iinc (j := 2) (v := (x2 + (1 : Int32))) (ls2 := [(2, .int ((x2 + (1 : Int32)))), (0, .ref (p0)), (1, .int (x1))]) dX12_fitsHour_28 rfl rfl (Nat.le_of_ble_eq_true rfl) rfl ?_
      refine aj_goto (tgt := 7) dX12_fitsHour_31 (by decide) ?_
      refine AJ.sub [1, 2, 0] rfl ?_
      exact ih (p0) (x1) ((x2 + (1 : Int32))) M1
    refine aj_iconst (v := (0 : Int32)) dX12_fitsHour_26 (by decide) ?_
    exact aj_iret dX12_fitsHour_27 rfl (by decide +kernel) rfl
def gX12_fitsHour (S : List (Nat × Nat)) (p0 : Nat) (x1 : Int32) (M : zM) : Option (Int32 × zM) := zrc S (p0) 12 66 ((gX12_starts S (p0) ((1 : Int32)) M).bind (fun M1 => gX12_fitsHour_7 S zfu (p0) (x1) ((1 : Int32)) M1))
set_option maxHeartbeats 4000000 in
set_option maxRecDepth 100000 in
theorem c_X12_fitsHour (w : zWd) (S : List (Nat × Nat)) (p0 : Nat) (x1 : Int32) (M : zM) : CT (zfIM S) w 8 mX12_fitsHour [.ref (p0), .int (x1)] (S, M) (gX12_fitsHour S p0 x1 M) := by
  refine CT.of (by decide) (Nat.le_of_ble_eq_true rfl) ?_
  show AJ _ _ _ _ 0 [(0, .ref (p0)), (1, .int (x1))] [] _ _
  unfold gX12_fitsHour
  refine aj_aload_n (0) dX12_fitsHour_0 rfl rfl ?_
  refine aj_iconst (v := (1 : Int32)) dX12_fitsHour_1 (by decide) ?_
  refine rV_VM (as := [.int ((1 : Int32))]) (c_X12_starts w S _ _ _) mv_X12_starts rfl zg_1346 (by decide) (Nat.le_of_ble_eq_true rfl) dX12_fitsHour_2 (fun M1 => ?_)
  refine aj_iconst (v := (1 : Int32)) dX12_fitsHour_5 (by decide) ?_
  refine aj_istore_n (ls2 := [(2, .int ((1 : Int32))), (0, .ref (p0)), (1, .int (x1))]) dX12_fitsHour_6 rfl (Nat.le_of_ble_eq_true rfl) rfl ?_
  refine AJ.sub [1, 2, 0] rfl ?_
  exact t_X12_fitsHour_7 w S zfu (p0) (x1) ((1 : Int32)) M1
def gX12_hoursOf_129 (S : List (Nat × Nat)) : Nat → Nat → Int32 → Int32 → Int32 → zM → Option (Int32 × zM)
  | 0 => fun _ _ _ _ _ => none
  | n + 1 => fun p0 x2 x3 x4 M => (if (24 : Int32) ≤ x4 then zpI S M (p0) 12 66 49 ((-1 : Int32)) (fun M1 => some (x3, M1)) else zpI S M (p0) 12 66 50 (x4) (fun M2 => zrc S (p0) 12 66 (zb2 (gX12_fitsHour S (p0) (x2) M2) (fun v3 M4 => (if v3 = 0 then (gX12_hoursOf_129 S   n) (p0) (x2) ((x3 ||| (0 : Int32))) ((x4 + (1 : Int32))) M4 else (gX12_hoursOf_129 S   n) (p0) (x2) ((x3 ||| ((1 : Int32) <<< (x4 &&& 31)))) ((x4 + (1 : Int32))) M4)))))
set_option maxHeartbeats 4000000 in
set_option maxRecDepth 100000 in
theorem t_X12_hoursOf_129 (w : zWd) (S : List (Nat × Nat)) (fu : Nat) : ∀ (p0 : Nat) (x2 : Int32) (x3 : Int32) (x4 : Int32) (M : zM), AJ (zfIM S) w 9 mX12_hoursOf 129 [(0, .ref (p0)), (2, .int (x2)), (3, .int (x3)), (4, .int (x4))] [] (S, M) (gX12_hoursOf_129 S fu p0 x2 x3 x4 M) := by
  induction fu with
  | zero => intro p0 x2 x3 x4 M; exact AJ.none
  | succ n ih =>
    intro p0 x2 x3 x4 M
    unfold gX12_hoursOf_129
    refine aj_iload (3) dX12_hoursOf_129 rfl ?_
    refine aj_bipush (v := (24 : Int32)) dX12_hoursOf_131 (by decide) ?_
    refine aj_icmp_ge (tgt := 167) dX12_hoursOf_133 (by decide) (fun h => ?_) (fun h => ?_)
    · refine aj_aload_n (0) dX12_hoursOf_167 rfl rfl ?_
      refine aj_iconst (v := (-1 : Int32)) dX12_hoursOf_168 (by decide) ?_
      refine r_putI (TX := TX12) zc12 (by decide) rfl rfl rfl rfl (Or.inl zg_1399) dX12_hoursOf_169 (fun M1 => ?_)
      refine aj_iload_n (2) dX12_hoursOf_172 rfl rfl ?_
      exact aj_iret dX12_hoursOf_173 rfl rfl rfl
    refine aj_aload_n (0) dX12_hoursOf_136 rfl rfl ?_
    refine aj_iload (3) dX12_hoursOf_137 rfl ?_
    refine r_putI (TX := TX12) zc12 (by decide) rfl rfl rfl rfl (Or.inl zg_1400) dX12_hoursOf_139 (fun M2 => ?_)
    refine aj_iload_n (2) dX12_hoursOf_142 rfl rfl ?_
    refine aj_aload_n (0) dX12_hoursOf_143 rfl rfl ?_
    refine aj_iload_n (1) dX12_hoursOf_144 rfl rfl ?_
    refine rV_IM (as := [.int (x2)]) (c_X12_fitsHour w S _ _ _) mv_X12_fitsHour rfl zg_1979 (by decide) (Nat.le_of_ble_eq_true rfl) dX12_hoursOf_145 (fun v3 M4 => ?_)
    refine aj_if_eq (tgt := 158) dX12_hoursOf_148 (by decide) (fun h => ?_) (fun h => ?_)
    · refine aj_iconst (v := (0 : Int32)) dX12_hoursOf_158 (by decide) ?_
      refine aj_ior dX12_hoursOf_159 ?_
      refine aj_istore_n (ls2 := [(3, .int ((x3 ||| (0 : Int32)))), (0, .ref (p0)), (2, .int (x2)), (4, .int (x4))]) dX12_hoursOf_160 rfl (Nat.le_of_ble_eq_true rfl) rfl ?_
      refine aj_iinc (j := 3) (v := (x4 + (1 : Int32))) (ls2 := [(4, .int ((x4 + (1 : Int32)))), (3, .int ((x3 ||| (0 : Int32)))), (0, .ref (p0)), (2, .int (x2))]) dX12_hoursOf_161 rfl rfl (Nat.le_of_ble_eq_true rfl) rfl ?_
      refine aj_goto (tgt := 129) dX12_hoursOf_164 (by decide) ?_
      refine AJ.sub [2, 3, 1, 0] rfl ?_
      exact ih (p0) (x2) ((x3 ||| (0 : Int32))) ((x4 + (1 : Int32))) M4
    refine aj_iconst (v := (1 : Int32)) dX12_hoursOf_151 (by decide) ?_
    refine aj_iload (3) dX12_hoursOf_152 rfl ?_
    refine aj_ishl dX12_hoursOf_154 ?_
    refine aj_goto (tgt := 159) dX12_hoursOf_155 (by decide) ?_
    refine aj_ior dX12_hoursOf_159 ?_
    refine aj_istore_n (ls2 := [(3, .int ((x3 ||| ((1 : Int32) <<< (x4 &&& 31))))), (0, .ref (p0)), (2, .int (x2)), (4, .int (x4))]) dX12_hoursOf_160 rfl (Nat.le_of_ble_eq_true rfl) rfl ?_
    refine aj_iinc (j := 3) (v := (x4 + (1 : Int32))) (ls2 := [(4, .int ((x4 + (1 : Int32)))), (3, .int ((x3 ||| ((1 : Int32) <<< (x4 &&& 31))))), (0, .ref (p0)), (2, .int (x2))]) dX12_hoursOf_161 rfl rfl (Nat.le_of_ble_eq_true rfl) rfl ?_
    refine aj_goto (tgt := 129) dX12_hoursOf_164 (by decide) ?_
    refine AJ.sub [2, 3, 1, 0] rfl ?_
    exact ih (p0) (x2) ((x3 ||| ((1 : Int32) <<< (x4 &&& 31)))) ((x4 + (1 : Int32))) M4
def gX12_hoursOf_75 (S : List (Nat × Nat)) : Nat → Nat → Int32 → Int32 → Int32 → zM → Option (Int32 × zM)
  | 0 => fun _ _ _ _ _ => none
  | n + 1 => fun p0 x1 x2 x3 M => zrc S (p0) 12 66 ((gX12_knownMany S (p0) M).bind (fun v1 => (if v1 ≤ x3 then zpI S M (p0) 12 66 49 (x1) (fun M2 => gX12_hoursOf_129 S zfu (p0) (x2) ((0 : Int32)) ((0 : Int32)) M2) else zgR S M (p0) 12 66 64 (fun r3 => zaI S M 102 (r3) (x3) (fun v4 => (if v4 = 0 then zgR S M (p0) 12 66 63 (fun r5 => zaI S M 100 (r5) (x3) (fun v6 => (if v6 = (-1 : Int32) then zgR S M (p0) 12 66 60 (fun r7 => zaI S M 100 (r7) (x3) (fun v8 => (gX12_hoursOf_75 S   n) (p0) (x1) ((if x2 < v8 then v8 else x2)) ((x3 + (1 : Int32))) M)) else (gX12_hoursOf_75 S   n) (p0) (x1) (x2) ((x3 + (1 : Int32))) M))) else (gX12_hoursOf_75 S   n) (p0) (x1) (x2) ((x3 + (1 : Int32))) M))))))
set_option maxHeartbeats 4000000 in
set_option maxRecDepth 100000 in
theorem t_X12_hoursOf_75 (w : zWd) (S : List (Nat × Nat)) (fu : Nat) : ∀ (p0 : Nat) (x1 : Int32) (x2 : Int32) (x3 : Int32) (M : zM), AJ (zfIM S) w 9 mX12_hoursOf 75 [(0, .ref (p0)), (1, .int (x1)), (2, .int (x2)), (3, .int (x3))] [] (S, M) (gX12_hoursOf_75 S fu p0 x1 x2 x3 M) := by
  induction fu with
  | zero => intro p0 x1 x2 x3 M; exact AJ.none
  | succ n ih =>
    intro p0 x1 x2 x3 M
    unfold gX12_hoursOf_75
    refine aj_iload_n (3) dX12_hoursOf_75 rfl rfl ?_
    refine aj_aload_n (0) dX12_hoursOf_76 rfl rfl ?_
    refine rV_I (as := []) (c_X12_knownMany w S _ _) mv_X12_knownMany rfl zg_1975 (by decide) (Nat.le_of_ble_eq_true rfl) dX12_hoursOf_77 (fun v1 => ?_)
    refine aj_icmp_ge (tgt := 119) dX12_hoursOf_80 (by decide) (fun h => ?_) (fun h => ?_)
    · refine aj_iconst (v := (0 : Int32)) dX12_hoursOf_119 (by decide) ?_
      refine aj_istore_n (ls2 := [(3, .int ((0 : Int32))), (0, .ref (p0)), (1, .int (x1)), (2, .int (x2))]) dX12_hoursOf_120 rfl (Nat.le_of_ble_eq_true rfl) rfl ?_
      refine aj_aload_n (1) dX12_hoursOf_121 rfl rfl ?_
      refine aj_iload_n (2) dX12_hoursOf_122 rfl rfl ?_
      refine r_putI (TX := TX12) zc12 (by decide) rfl rfl rfl rfl (Or.inl zg_1399) dX12_hoursOf_123 (fun M2 => ?_)
      refine aj_iconst (v := (0 : Int32)) dX12_hoursOf_126 (by decide) ?_
      refine aj_istore (ls2 := [(4, .int ((0 : Int32))), (3, .int ((0 : Int32))), (0, .ref (p0)), (1, .int (x1)), (2, .int (x2))]) dX12_hoursOf_127 (Nat.le_of_ble_eq_true rfl) rfl ?_
      refine AJ.sub [2, 4, 1, 0] rfl ?_
      exact t_X12_hoursOf_129 w S zfu (p0) (x2) ((0 : Int32)) ((0 : Int32)) M2
    refine aj_aload_n (0) dX12_hoursOf_83 rfl rfl ?_
    refine aj_getR (TX := TX12) zc12 (by decide) rfl (Or.inl zg_1414) dX12_hoursOf_84 (fun r3 => ?_)
    refine aj_iload_n (3) dX12_hoursOf_87 rfl rfl ?_
    refine r_zald dX12_hoursOf_88 (fun v4 => ?_)
    refine aj_if_ne (tgt := 113) dX12_hoursOf_89 (by decide) (fun h => ?_) (fun h => ?_)
    · refine aj_iinc (j := 3) (v := (x3 + (1 : Int32))) (ls2 := [(3, .int ((x3 + (1 : Int32)))), (0, .ref (p0)), (1, .int (x1)), (2, .int (x2))]) dX12_hoursOf_113 rfl rfl (Nat.le_of_ble_eq_true rfl) rfl ?_
      refine aj_goto (tgt := 75) dX12_hoursOf_116 (by decide) ?_
      refine AJ.sub [1, 2, 3, 0] rfl ?_
      exact ih (p0) (x1) (x2) ((x3 + (1 : Int32))) M
    refine aj_aload_n (0) dX12_hoursOf_92 rfl rfl ?_
    refine aj_getR (TX := TX12) zc12 (by decide) rfl (Or.inl zg_1413) dX12_hoursOf_93 (fun r5 => ?_)
    refine aj_iload_n (3) dX12_hoursOf_96 rfl rfl ?_
    refine r_iald dX12_hoursOf_97 (fun v6 => ?_)
    refine aj_iconst (v := (-1 : Int32)) dX12_hoursOf_98 (by decide) ?_
    refine aj_icmp_ne (tgt := 113) dX12_hoursOf_99 (by decide) (fun h => ?_) (fun h => ?_)
    · refine aj_iinc (j := 3) (v := (x3 + (1 : Int32))) (ls2 := [(3, .int ((x3 + (1 : Int32)))), (0, .ref (p0)), (1, .int (x1)), (2, .int (x2))]) dX12_hoursOf_113 rfl rfl (Nat.le_of_ble_eq_true rfl) rfl ?_
      refine aj_goto (tgt := 75) dX12_hoursOf_116 (by decide) ?_
      refine AJ.sub [1, 2, 3, 0] rfl ?_
      exact ih (p0) (x1) (x2) ((x3 + (1 : Int32))) M
    refine aj_iload_n (2) dX12_hoursOf_102 rfl rfl ?_
    refine aj_aload_n (0) dX12_hoursOf_103 rfl rfl ?_
    refine aj_getR (TX := TX12) zc12 (by decide) rfl (Or.inl zg_1410) dX12_hoursOf_104 (fun r7 => ?_)
    refine aj_iload_n (3) dX12_hoursOf_107 rfl rfl ?_
    refine r_iald dX12_hoursOf_108 (fun v8 => ?_)
    refine aj_mmax zg_1822 zg_40 zg_3 zg_41 (by decide) (Nat.le_of_ble_eq_true rfl) dX12_hoursOf_109 ?_
    refine aj_istore_n (ls2 := [(2, .int ((if x2 < v8 then v8 else x2))), (0, .ref (p0)), (1, .int (x1)), (3, .int (x3))]) dX12_hoursOf_112 rfl (Nat.le_of_ble_eq_true rfl) rfl ?_
    refine aj_iinc (j := 3) (v := (x3 + (1 : Int32))) (ls2 := [(3, .int ((x3 + (1 : Int32)))), (2, .int ((if x2 < v8 then v8 else x2))), (0, .ref (p0)), (1, .int (x1))]) dX12_hoursOf_113 rfl rfl (Nat.le_of_ble_eq_true rfl) rfl ?_
    refine aj_goto (tgt := 75) dX12_hoursOf_116 (by decide) ?_
    refine AJ.sub [2, 3, 1, 0] rfl ?_
    exact ih (p0) (x1) ((if x2 < v8 then v8 else x2)) ((x3 + (1 : Int32))) M
def gX12_hoursOf_32 (S : List (Nat × Nat)) : Nat → Nat → Int32 → Int32 → Int32 → zM → Option (Int32 × zM)
  | 0 => fun _ _ _ _ _ => none
  | n + 1 => fun p0 x1 x2 x3 M => (if x3 < 0 then gX12_hoursOf_75 S zfu (p0) (x1) (x2) ((0 : Int32)) M else zgR S M (p0) 12 66 64 (fun r1 => zaI S M 102 (r1) (x3) (fun v2 => (if v2 = 0 then zgR S M (p0) 12 66 63 (fun r3 => zaI S M 100 (r3) (x3) (fun v4 => (if v4 = (-1 : Int32) then (gX12_hoursOf_32 S   n) (p0) (x1) (x2) ((x3 + (-1 : Int32))) M else zgR S M (p0) 12 66 64 (fun r5 => zgR S M (p0) 12 66 63 (fun r6 => zaI S M 100 (r6) (x3) (fun v7 => zbZ S M (r5) (v7) ((1 : Int32)) (fun M8 => (gX12_hoursOf_32 S   n) (p0) (x1) (x2) ((x3 + (-1 : Int32))) M8))))))) else (gX12_hoursOf_32 S   n) (p0) (x1) (x2) ((x3 + (-1 : Int32))) M))))
set_option maxHeartbeats 4000000 in
set_option maxRecDepth 100000 in
theorem t_X12_hoursOf_32 (w : zWd) (S : List (Nat × Nat)) (fu : Nat) : ∀ (p0 : Nat) (x1 : Int32) (x2 : Int32) (x3 : Int32) (M : zM), AJ (zfIM S) w 9 mX12_hoursOf 32 [(0, .ref (p0)), (1, .int (x1)), (2, .int (x2)), (3, .int (x3))] [] (S, M) (gX12_hoursOf_32 S fu p0 x1 x2 x3 M) := by
  induction fu with
  | zero => intro p0 x1 x2 x3 M; exact AJ.none
  | succ n ih =>
    intro p0 x1 x2 x3 M
    unfold gX12_hoursOf_32
    refine aj_iload_n (3) dX12_hoursOf_32 rfl rfl ?_
    refine aj_if_lt (tgt := 73) dX12_hoursOf_33 (by decide) (fun h => ?_) (fun h => ?_)
    · refine aj_iconst (v := (0 : Int32)) dX12_hoursOf_73 (by decide) ?_
      refine aj_istore_n (ls2 := [(3, .int ((0 : Int32))), (0, .ref (p0)), (1, .int (x1)), (2, .int (x2))]) dX12_hoursOf_74 rfl (Nat.le_of_ble_eq_true rfl) rfl ?_
      refine AJ.sub [1, 2, 3, 0] rfl ?_
      exact t_X12_hoursOf_75 w S zfu (p0) (x1) (x2) ((0 : Int32)) M
    refine aj_aload_n (0) dX12_hoursOf_36 rfl rfl ?_
    refine aj_getR (TX := TX12) zc12 (by decide) rfl (Or.inl zg_1414) dX12_hoursOf_37 (fun r1 => ?_)
    refine aj_iload_n (3) dX12_hoursOf_40 rfl rfl ?_
    refine r_zald dX12_hoursOf_41 (fun v2 => ?_)
    refine aj_if_ne (tgt := 67) dX12_hoursOf_42 (by decide) (fun h => ?_) (fun h => ?_)
    · refine aj_iinc (j := 3) (v := (x3 + (-1 : Int32))) (ls2 := [(3, .int ((x3 + (-1 : Int32)))), (0, .ref (p0)), (1, .int (x1)), (2, .int (x2))]) dX12_hoursOf_67 rfl rfl (Nat.le_of_ble_eq_true rfl) rfl ?_
      refine aj_goto (tgt := 32) dX12_hoursOf_70 (by decide) ?_
      refine AJ.sub [1, 2, 3, 0] rfl ?_
      exact ih (p0) (x1) (x2) ((x3 + (-1 : Int32))) M
    refine aj_aload_n (0) dX12_hoursOf_45 rfl rfl ?_
    refine aj_getR (TX := TX12) zc12 (by decide) rfl (Or.inl zg_1413) dX12_hoursOf_46 (fun r3 => ?_)
    refine aj_iload_n (3) dX12_hoursOf_49 rfl rfl ?_
    refine r_iald dX12_hoursOf_50 (fun v4 => ?_)
    refine aj_iconst (v := (-1 : Int32)) dX12_hoursOf_51 (by decide) ?_
    refine aj_icmp_eq (tgt := 67) dX12_hoursOf_52 (by decide) (fun h => ?_) (fun h => ?_)
    · refine aj_iinc (j := 3) (v := (x3 + (-1 : Int32))) (ls2 := [(3, .int ((x3 + (-1 : Int32)))), (0, .ref (p0)), (1, .int (x1)), (2, .int (x2))]) dX12_hoursOf_67 rfl rfl (Nat.le_of_ble_eq_true rfl) rfl ?_
      refine aj_goto (tgt := 32) dX12_hoursOf_70 (by decide) ?_
      refine AJ.sub [1, 2, 3, 0] rfl ?_
      exact ih (p0) (x1) (x2) ((x3 + (-1 : Int32))) M
    refine aj_aload_n (0) dX12_hoursOf_55 rfl rfl ?_
    refine aj_getR (TX := TX12) zc12 (by decide) rfl (Or.inl zg_1414) dX12_hoursOf_56 (fun r5 => ?_)
    refine aj_aload_n (0) dX12_hoursOf_59 rfl rfl ?_
    refine aj_getR (TX := TX12) zc12 (by decide) rfl (Or.inl zg_1413) dX12_hoursOf_60 (fun r6 => ?_)
    refine aj_iload_n (3) dX12_hoursOf_63 rfl rfl ?_
    refine r_iald dX12_hoursOf_64 (fun v7 => ?_)
    refine aj_iconst (v := (1 : Int32)) dX12_hoursOf_65 (by decide) ?_
    refine r_zast dX12_hoursOf_66 (fun M8 => ?_)
    refine aj_iinc (j := 3) (v := (x3 + (-1 : Int32))) (ls2 := [(3, .int ((x3 + (-1 : Int32)))), (0, .ref (p0)), (1, .int (x1)), (2, .int (x2))]) dX12_hoursOf_67 rfl rfl (Nat.le_of_ble_eq_true rfl) rfl ?_
    refine aj_goto (tgt := 32) dX12_hoursOf_70 (by decide) ?_
    refine AJ.sub [1, 2, 3, 0] rfl ?_
    exact ih (p0) (x1) (x2) ((x3 + (-1 : Int32))) M8
def gX12_hoursOf_4 (S : List (Nat × Nat)) : Nat → Nat → Int32 → Int32 → Int32 → zM → Option (Int32 × zM)
  | 0 => fun _ _ _ _ _ => none
  | n + 1 => fun p0 x1 x2 x3 M => zrc S (p0) 12 66 ((gX12_knownMany S (p0) M).bind (fun v1 => (if v1 ≤ x3 then zrc S (p0) 12 66 ((gX12_knownMany S (p0) M).bind (fun v2 => gX12_hoursOf_32 S zfu (p0) (x1) (x2) ((v2 - (1 : Int32))) M)) else zgR S M (p0) 12 66 64 (fun r3 => zbZ S M (r3) (x3) ((0 : Int32)) (fun M4 => (gX12_hoursOf_4 S   n) (p0) (x1) (x2) ((x3 + (1 : Int32))) M4)))))
set_option maxHeartbeats 4000000 in
set_option maxRecDepth 100000 in
theorem t_X12_hoursOf_4 (w : zWd) (S : List (Nat × Nat)) (fu : Nat) : ∀ (p0 : Nat) (x1 : Int32) (x2 : Int32) (x3 : Int32) (M : zM), AJ (zfIM S) w 9 mX12_hoursOf 4 [(0, .ref (p0)), (1, .int (x1)), (2, .int (x2)), (3, .int (x3))] [] (S, M) (gX12_hoursOf_4 S fu p0 x1 x2 x3 M) := by
  induction fu with
  | zero => intro p0 x1 x2 x3 M; exact AJ.none
  | succ n ih =>
    intro p0 x1 x2 x3 M
    unfold gX12_hoursOf_4
    refine aj_iload_n (3) dX12_hoursOf_4 rfl rfl ?_
    refine aj_aload_n (0) dX12_hoursOf_5 rfl rfl ?_
    refine rV_I (as := []) (c_X12_knownMany w S _ _) mv_X12_knownMany rfl zg_1975 (by decide) (Nat.le_of_ble_eq_true rfl) dX12_hoursOf_6 (fun v1 => ?_)
    refine aj_icmp_ge (tgt := 25) dX12_hoursOf_9 (by decide) (fun h => ?_) (fun h => ?_)
    · refine aj_aload_n (0) dX12_hoursOf_25 rfl rfl ?_
      refine rV_I (as := []) (c_X12_knownMany w S _ _) mv_X12_knownMany rfl zg_1975 (by decide) (Nat.le_of_ble_eq_true rfl) dX12_hoursOf_26 (fun v2 => ?_)
      refine aj_iconst (v := (1 : Int32)) dX12_hoursOf_29 (by decide) ?_
      refine aj_isub dX12_hoursOf_30 ?_
      refine aj_istore_n (ls2 := [(3, .int ((v2 - (1 : Int32)))), (0, .ref (p0)), (1, .int (x1)), (2, .int (x2))]) dX12_hoursOf_31 rfl (Nat.le_of_ble_eq_true rfl) rfl ?_
      refine AJ.sub [1, 2, 3, 0] rfl ?_
      exact t_X12_hoursOf_32 w S zfu (p0) (x1) (x2) ((v2 - (1 : Int32))) M
    refine aj_aload_n (0) dX12_hoursOf_12 rfl rfl ?_
    refine aj_getR (TX := TX12) zc12 (by decide) rfl (Or.inl zg_1414) dX12_hoursOf_13 (fun r3 => ?_)
    refine aj_iload_n (3) dX12_hoursOf_16 rfl rfl ?_
    refine aj_iconst (v := (0 : Int32)) dX12_hoursOf_17 (by decide) ?_
    refine r_zast dX12_hoursOf_18 (fun M4 => ?_)
    refine aj_iinc (j := 3) (v := (x3 + (1 : Int32))) (ls2 := [(3, .int ((x3 + (1 : Int32)))), (0, .ref (p0)), (1, .int (x1)), (2, .int (x2))]) dX12_hoursOf_19 rfl rfl (Nat.le_of_ble_eq_true rfl) rfl ?_
    refine aj_goto (tgt := 4) dX12_hoursOf_22 (by decide) ?_
    refine AJ.sub [1, 2, 3, 0] rfl ?_
    exact ih (p0) (x1) (x2) ((x3 + (1 : Int32))) M4
def gX12_hoursOf (S : List (Nat × Nat)) (p0 : Nat) (x1 : Int32) (M : zM) : Option (Int32 × zM) := gX12_hoursOf_4 S zfu (p0) (x1) ((0 : Int32)) ((0 : Int32)) M
set_option maxHeartbeats 4000000 in
set_option maxRecDepth 100000 in
theorem c_X12_hoursOf (w : zWd) (S : List (Nat × Nat)) (p0 : Nat) (x1 : Int32) (M : zM) : CT (zfIM S) w 9 mX12_hoursOf [.ref (p0), .int (x1)] (S, M) (gX12_hoursOf S p0 x1 M) := by
  refine CT.of (by decide) (Nat.le_of_ble_eq_true rfl) ?_
  show AJ _ _ _ _ 0 [(0, .ref (p0)), (1, .int (x1))] [] _ _
  unfold gX12_hoursOf
  refine aj_iconst (v := (0 : Int32)) dX12_hoursOf_0 (by decide) ?_
  refine aj_istore_n (ls2 := [(2, .int ((0 : Int32))), (0, .ref (p0)), (1, .int (x1))]) dX12_hoursOf_1 rfl (Nat.le_of_ble_eq_true rfl) rfl ?_
  refine aj_iconst (v := (0 : Int32)) dX12_hoursOf_2 (by decide) ?_
  refine aj_istore_n (ls2 := [(3, .int ((0 : Int32))), (2, .int ((0 : Int32))), (0, .ref (p0)), (1, .int (x1))]) dX12_hoursOf_3 rfl (Nat.le_of_ble_eq_true rfl) rfl ?_
  refine AJ.sub [2, 3, 1, 0] rfl ?_
  exact t_X12_hoursOf_4 w S zfu (p0) (x1) ((0 : Int32)) ((0 : Int32)) M
def gX12_hours (S : List (Nat × Nat)) (p0 : Nat) (x1 : Int32) (M : zM) : Option (Int32 × zM) := zpI S M (p0) 12 66 0 ((0 : Int32)) (fun M1 => zrc S (p0) 12 66 ((gX12_isTrade S (p0) (x1) M1).bind (fun v2 => (if v2 = 0 then some ((-1 : Int32), M1) else zrc S (p0) 12 66 (zb2 (gX12_hoursOf S (p0) (x1) M1) (fun v3 M4 => some (v3, M4)))))))
set_option maxHeartbeats 4000000 in
set_option maxRecDepth 100000 in
theorem c_X12_hours (w : zWd) (S : List (Nat × Nat)) (p0 : Nat) (x1 : Int32) (M : zM) : CT (zfIM S) w 10 mX12_hours [.ref (p0), .int (x1)] (S, M) (gX12_hours S p0 x1 M) := by
  refine CT.of (by decide) (Nat.le_of_ble_eq_true rfl) ?_
  show AJ _ _ _ _ 0 [(0, .ref (p0)), (1, .int (x1))] [] _ _
  unfold gX12_hours
  refine aj_aload_n (0) dX12_hours_0 rfl rfl ?_
  refine aj_iconst (v := (0 : Int32)) dX12_hours_1 (by decide) ?_
  refine r_putI (TX := TX12) zc12 (by decide) rfl rfl rfl rfl (Or.inl zg_1350) dX12_hours_2 (fun M1 => ?_)
  refine aj_aload_n (0) dX12_hours_5 rfl rfl ?_
  refine aj_iload_n (1) dX12_hours_6 rfl rfl ?_
  refine rV_I (as := [.int (x1)]) (c_X12_isTrade w S _ _ _) mv_X12_isTrade rfl zg_1694 (by decide) (Nat.le_of_ble_eq_true rfl) dX12_hours_7 (fun v2 => ?_)
  refine aj_if_eq (tgt := 21) dX12_hours_10 (by decide) (fun h => ?_) (fun h => ?_)
  · refine aj_iconst (v := (-1 : Int32)) dX12_hours_21 (by decide) ?_
    exact aj_iret dX12_hours_22 rfl rfl rfl
  refine aj_aload_n (0) dX12_hours_13 rfl rfl ?_
  refine aj_iload_n (1) dX12_hours_14 rfl rfl ?_
  refine rV_IM (as := [.int (x1)]) (c_X12_hoursOf w S _ _ _) mv_X12_hoursOf rfl zg_1971 (by decide) (Nat.le_of_ble_eq_true rfl) dX12_hours_15 (fun v3 M4 => ?_)
  refine aj_goto (tgt := 22) dX12_hours_18 (by decide) ?_
  exact aj_iret dX12_hours_22 rfl rfl rfl
def gX12_worstAt_18 (S : List (Nat × Nat)) (k5 : Nat → Int32 → Int32 → Int32 → Int32 → zM → Option Int32) : Nat → Nat → Int32 → Int32 → Int32 → Int32 → Int32 → Int32 → zM → Option Int32
  | 0 => fun _ _ _ _ _ _ _ _ => none
  | n + 1 => fun p0 x1 x2 x3 x4 x5 x6 M => (if (24 : Int32) ≤ x6 then (if ((x1 >>> (x4 &&& 31)) &&& (1 : Int32)) = (1 : Int32) then k5 (p0) (x1) (x2) ((if x3 < x5 then x5 else x3)) ((x4 + (1 : Int32))) M else k5 (p0) (x1) (x2) (x3) ((x4 + (1 : Int32))) M) else (if ((x1 >>> (x6 &&& 31)) &&& (1 : Int32)) = (1 : Int32) then zgR S M (p0) 12 66 65 (fun r1 => zaI S M 100 (r1) ((((61 : Int32) * x6) + x2)) (fun v2 => zgR S M (p0) 12 66 65 (fun r3 => zaI S M 100 (r3) ((((61 : Int32) * x4) + x2)) (fun v4 => (if v2 = v4 then (gX12_worstAt_18 S  k5 n) (p0) (x1) (x2) (x3) (x4) ((x5 + (1 : Int32))) ((x6 + (1 : Int32))) M else (gX12_worstAt_18 S  k5 n) (p0) (x1) (x2) (x3) (x4) ((x5 + (0 : Int32))) ((x6 + (1 : Int32))) M))))) else (gX12_worstAt_18 S  k5 n) (p0) (x1) (x2) (x3) (x4) ((x5 + (0 : Int32))) ((x6 + (1 : Int32))) M))
set_option maxHeartbeats 4000000 in
set_option maxRecDepth 100000 in
theorem t_X12_worstAt_18 (w : zWd) (S : List (Nat × Nat)) (k5 : Nat → Int32 → Int32 → Int32 → Int32 → zM → Option Int32) (hk5 : ∀ (p0 : Nat) (x1 : Int32) (x2 : Int32) (x3 : Int32) (x4 : Int32) (M : zM), AJ (zfI S M) w 2 mX12_worstAt 5 [(0, .ref (p0)), (1, .int (x1)), (2, .int (x2)), (3, .int (x3)), (4, .int (x4))] [] (S, M) (k5 p0 x1 x2 x3 x4 M)) (fu : Nat) : ∀ (p0 : Nat) (x1 : Int32) (x2 : Int32) (x3 : Int32) (x4 : Int32) (x5 : Int32) (x6 : Int32) (M : zM), AJ (zfI S M) w 2 mX12_worstAt 18 [(0, .ref (p0)), (1, .int (x1)), (2, .int (x2)), (3, .int (x3)), (4, .int (x4)), (5, .int (x5)), (6, .int (x6))] [] (S, M) (gX12_worstAt_18 S k5 fu p0 x1 x2 x3 x4 x5 x6 M) := by
  induction fu with
  | zero => intro p0 x1 x2 x3 x4 x5 x6 M; exact AJ.none
  | succ n ih =>
    intro p0 x1 x2 x3 x4 x5 x6 M
    unfold gX12_worstAt_18
    refine aj_iload (6) dX12_worstAt_18 rfl ?_
    refine aj_bipush (v := (24 : Int32)) dX12_worstAt_20 (by decide) ?_
    refine aj_icmp_ge (tgt := 78) dX12_worstAt_22 (by decide) (fun h => ?_) (fun h => ?_)
    · refine aj_iload_n (1) dX12_worstAt_78 rfl rfl ?_
      refine aj_iload (4) dX12_worstAt_79 rfl ?_
      refine aj_ishr dX12_worstAt_81 ?_
      refine aj_iconst (v := (1 : Int32)) dX12_worstAt_82 (by decide) ?_
      refine aj_iand dX12_worstAt_83 ?_
      refine aj_iconst (v := (1 : Int32)) dX12_worstAt_84 (by decide) ?_
      refine aj_icmp_ne (tgt := 95) dX12_worstAt_85 (by decide) (fun h => ?_) (fun h => ?_)
      · refine aj_iinc (j := 4) (v := (x4 + (1 : Int32))) (ls2 := [(4, .int ((x4 + (1 : Int32)))), (0, .ref (p0)), (1, .int (x1)), (2, .int (x2)), (3, .int (x3)), (5, .int (x5)), (6, .int (x6))]) dX12_worstAt_95 rfl rfl (Nat.le_of_ble_eq_true rfl) rfl ?_
        refine aj_goto (tgt := 5) dX12_worstAt_98 (by decide) ?_
        refine AJ.sub [1, 2, 3, 4, 0] rfl ?_
        exact hk5 (p0) (x1) (x2) (x3) ((x4 + (1 : Int32))) M
      refine aj_iload_n (3) dX12_worstAt_88 rfl rfl ?_
      refine aj_iload (5) dX12_worstAt_89 rfl ?_
      refine aj_mmax zg_1822 zg_40 zg_3 zg_41 (by decide) (Nat.le_of_ble_eq_true rfl) dX12_worstAt_91 ?_
      refine aj_istore_n (ls2 := [(3, .int ((if x3 < x5 then x5 else x3))), (0, .ref (p0)), (1, .int (x1)), (2, .int (x2)), (4, .int (x4)), (5, .int (x5)), (6, .int (x6))]) dX12_worstAt_94 rfl (Nat.le_of_ble_eq_true rfl) rfl ?_
      refine aj_iinc (j := 4) (v := (x4 + (1 : Int32))) (ls2 := [(4, .int ((x4 + (1 : Int32)))), (3, .int ((if x3 < x5 then x5 else x3))), (0, .ref (p0)), (1, .int (x1)), (2, .int (x2)), (5, .int (x5)), (6, .int (x6))]) dX12_worstAt_95 rfl rfl (Nat.le_of_ble_eq_true rfl) rfl ?_
      refine aj_goto (tgt := 5) dX12_worstAt_98 (by decide) ?_
      refine AJ.sub [2, 3, 4, 1, 0] rfl ?_
      exact hk5 (p0) (x1) (x2) ((if x3 < x5 then x5 else x3)) ((x4 + (1 : Int32))) M
    refine aj_iload (5) dX12_worstAt_25 rfl ?_
    refine aj_iload_n (1) dX12_worstAt_27 rfl rfl ?_
    refine aj_iload (6) dX12_worstAt_28 rfl ?_
    refine aj_ishr dX12_worstAt_30 ?_
    refine aj_iconst (v := (1 : Int32)) dX12_worstAt_31 (by decide) ?_
    refine aj_iand dX12_worstAt_32 ?_
    refine aj_iconst (v := (1 : Int32)) dX12_worstAt_33 (by decide) ?_
    refine aj_icmp_ne (tgt := 68) dX12_worstAt_34 (by decide) (fun h => ?_) (fun h => ?_)
    · refine aj_iconst (v := (0 : Int32)) dX12_worstAt_68 (by decide) ?_
      refine aj_iadd dX12_worstAt_69 ?_
      refine aj_istore (ls2 := [(5, .int ((x5 + (0 : Int32)))), (0, .ref (p0)), (1, .int (x1)), (2, .int (x2)), (3, .int (x3)), (4, .int (x4)), (6, .int (x6))]) dX12_worstAt_70 (Nat.le_of_ble_eq_true rfl) rfl ?_
      refine aj_iinc (j := 6) (v := (x6 + (1 : Int32))) (ls2 := [(6, .int ((x6 + (1 : Int32)))), (5, .int ((x5 + (0 : Int32)))), (0, .ref (p0)), (1, .int (x1)), (2, .int (x2)), (3, .int (x3)), (4, .int (x4))]) dX12_worstAt_72 rfl rfl (Nat.le_of_ble_eq_true rfl) rfl ?_
      refine aj_goto (tgt := 18) dX12_worstAt_75 (by decide) ?_
      refine AJ.sub [2, 3, 4, 5, 6, 1, 0] rfl ?_
      exact ih (p0) (x1) (x2) (x3) (x4) ((x5 + (0 : Int32))) ((x6 + (1 : Int32))) M
    refine aj_aload_n (0) dX12_worstAt_37 rfl rfl ?_
    refine aj_getR (TX := TX12) zc12 (by decide) rfl (Or.inl zg_1415) dX12_worstAt_38 (fun r1 => ?_)
    refine aj_bipush (v := (61 : Int32)) dX12_worstAt_41 (by decide) ?_
    refine aj_iload (6) dX12_worstAt_43 rfl ?_
    refine aj_imul dX12_worstAt_45 ?_
    refine aj_iload_n (2) dX12_worstAt_46 rfl rfl ?_
    refine aj_iadd dX12_worstAt_47 ?_
    refine r_iald dX12_worstAt_48 (fun v2 => ?_)
    refine aj_aload_n (0) dX12_worstAt_49 rfl rfl ?_
    refine aj_getR (TX := TX12) zc12 (by decide) rfl (Or.inl zg_1415) dX12_worstAt_50 (fun r3 => ?_)
    refine aj_bipush (v := (61 : Int32)) dX12_worstAt_53 (by decide) ?_
    refine aj_iload (4) dX12_worstAt_55 rfl ?_
    refine aj_imul dX12_worstAt_57 ?_
    refine aj_iload_n (2) dX12_worstAt_58 rfl rfl ?_
    refine aj_iadd dX12_worstAt_59 ?_
    refine r_iald dX12_worstAt_60 (fun v4 => ?_)
    refine aj_icmp_ne (tgt := 68) dX12_worstAt_61 (by decide) (fun h => ?_) (fun h => ?_)
    · refine aj_iconst (v := (0 : Int32)) dX12_worstAt_68 (by decide) ?_
      refine aj_iadd dX12_worstAt_69 ?_
      refine aj_istore (ls2 := [(5, .int ((x5 + (0 : Int32)))), (0, .ref (p0)), (1, .int (x1)), (2, .int (x2)), (3, .int (x3)), (4, .int (x4)), (6, .int (x6))]) dX12_worstAt_70 (Nat.le_of_ble_eq_true rfl) rfl ?_
      refine aj_iinc (j := 6) (v := (x6 + (1 : Int32))) (ls2 := [(6, .int ((x6 + (1 : Int32)))), (5, .int ((x5 + (0 : Int32)))), (0, .ref (p0)), (1, .int (x1)), (2, .int (x2)), (3, .int (x3)), (4, .int (x4))]) dX12_worstAt_72 rfl rfl (Nat.le_of_ble_eq_true rfl) rfl ?_
      refine aj_goto (tgt := 18) dX12_worstAt_75 (by decide) ?_
      refine AJ.sub [2, 3, 4, 5, 6, 1, 0] rfl ?_
      exact ih (p0) (x1) (x2) (x3) (x4) ((x5 + (0 : Int32))) ((x6 + (1 : Int32))) M
    refine aj_iconst (v := (1 : Int32)) dX12_worstAt_64 (by decide) ?_
    refine aj_goto (tgt := 69) dX12_worstAt_65 (by decide) ?_
    refine aj_iadd dX12_worstAt_69 ?_
    refine aj_istore (ls2 := [(5, .int ((x5 + (1 : Int32)))), (0, .ref (p0)), (1, .int (x1)), (2, .int (x2)), (3, .int (x3)), (4, .int (x4)), (6, .int (x6))]) dX12_worstAt_70 (Nat.le_of_ble_eq_true rfl) rfl ?_
    refine aj_iinc (j := 6) (v := (x6 + (1 : Int32))) (ls2 := [(6, .int ((x6 + (1 : Int32)))), (5, .int ((x5 + (1 : Int32)))), (0, .ref (p0)), (1, .int (x1)), (2, .int (x2)), (3, .int (x3)), (4, .int (x4))]) dX12_worstAt_72 rfl rfl (Nat.le_of_ble_eq_true rfl) rfl ?_
    refine aj_goto (tgt := 18) dX12_worstAt_75 (by decide) ?_
    refine AJ.sub [2, 3, 4, 5, 6, 1, 0] rfl ?_
    exact ih (p0) (x1) (x2) (x3) (x4) ((x5 + (1 : Int32))) ((x6 + (1 : Int32))) M
def gX12_worstAt_5 (S : List (Nat × Nat)) : Nat → Nat → Int32 → Int32 → Int32 → Int32 → zM → Option Int32
  | 0 => fun _ _ _ _ _ _ => none
  | n + 1 => fun p0 x1 x2 x3 x4 M => (if (24 : Int32) ≤ x4 then some (x3) else gX12_worstAt_18 S (gX12_worstAt_5 S   n) zfu (p0) (x1) (x2) (x3) (x4) ((0 : Int32)) ((0 : Int32)) M)
set_option maxHeartbeats 4000000 in
set_option maxRecDepth 100000 in
theorem t_X12_worstAt_5 (w : zWd) (S : List (Nat × Nat)) (fu : Nat) : ∀ (p0 : Nat) (x1 : Int32) (x2 : Int32) (x3 : Int32) (x4 : Int32) (M : zM), AJ (zfI S M) w 2 mX12_worstAt 5 [(0, .ref (p0)), (1, .int (x1)), (2, .int (x2)), (3, .int (x3)), (4, .int (x4))] [] (S, M) (gX12_worstAt_5 S fu p0 x1 x2 x3 x4 M) := by
  induction fu with
  | zero => intro p0 x1 x2 x3 x4 M; exact AJ.none
  | succ n ih =>
    intro p0 x1 x2 x3 x4 M
    unfold gX12_worstAt_5
    refine aj_iload (4) dX12_worstAt_5 rfl ?_
    refine aj_bipush (v := (24 : Int32)) dX12_worstAt_7 (by decide) ?_
    refine aj_icmp_ge (tgt := 101) dX12_worstAt_9 (by decide) (fun h => ?_) (fun h => ?_)
    · refine aj_iload_n (3) dX12_worstAt_101 rfl rfl ?_
      exact aj_iret dX12_worstAt_102 rfl rfl rfl
    refine aj_iconst (v := (0 : Int32)) dX12_worstAt_12 (by decide) ?_
    refine aj_istore (ls2 := [(5, .int ((0 : Int32))), (0, .ref (p0)), (1, .int (x1)), (2, .int (x2)), (3, .int (x3)), (4, .int (x4))]) dX12_worstAt_13 (Nat.le_of_ble_eq_true rfl) rfl ?_
    refine aj_iconst (v := (0 : Int32)) dX12_worstAt_15 (by decide) ?_
    refine aj_istore (ls2 := [(6, .int ((0 : Int32))), (5, .int ((0 : Int32))), (0, .ref (p0)), (1, .int (x1)), (2, .int (x2)), (3, .int (x3)), (4, .int (x4))]) dX12_worstAt_16 (Nat.le_of_ble_eq_true rfl) rfl ?_
    refine AJ.sub [2, 3, 4, 5, 6, 1, 0] rfl ?_
    exact t_X12_worstAt_18 w S (gX12_worstAt_5 S   n) ih zfu (p0) (x1) (x2) (x3) (x4) ((0 : Int32)) ((0 : Int32)) M
def gX12_worstAt (S : List (Nat × Nat)) (p0 : Nat) (x1 : Int32) (x2 : Int32) (M : zM) : Option Int32 := gX12_worstAt_5 S zfu (p0) (x1) (x2) ((0 : Int32)) ((0 : Int32)) M
set_option maxHeartbeats 4000000 in
set_option maxRecDepth 100000 in
theorem c_X12_worstAt (w : zWd) (S : List (Nat × Nat)) (p0 : Nat) (x1 : Int32) (x2 : Int32) (M : zM) : CT (zfI S M) w 2 mX12_worstAt [.ref (p0), .int (x1), .int (x2)] (S, M) (gX12_worstAt S p0 x1 x2 M) := by
  refine CT.of (by decide) (Nat.le_of_ble_eq_true rfl) ?_
  show AJ _ _ _ _ 0 [(0, .ref (p0)), (1, .int (x1)), (2, .int (x2))] [] _ _
  unfold gX12_worstAt
  refine aj_iconst (v := (0 : Int32)) dX12_worstAt_0 (by decide) ?_
  refine aj_istore_n (ls2 := [(3, .int ((0 : Int32))), (0, .ref (p0)), (1, .int (x1)), (2, .int (x2))]) dX12_worstAt_1 rfl (Nat.le_of_ble_eq_true rfl) rfl ?_
  refine aj_iconst (v := (0 : Int32)) dX12_worstAt_2 (by decide) ?_
  refine aj_istore (ls2 := [(4, .int ((0 : Int32))), (3, .int ((0 : Int32))), (0, .ref (p0)), (1, .int (x1)), (2, .int (x2))]) dX12_worstAt_3 (Nat.le_of_ble_eq_true rfl) rfl ?_
  refine AJ.sub [2, 3, 4, 1, 0] rfl ?_
  exact t_X12_worstAt_5 w S zfu (p0) (x1) (x2) ((0 : Int32)) ((0 : Int32)) M
def gX12_ask_114 (S : List (Nat × Nat)) : Nat → Nat → Int32 → Int32 → Int32 → Int32 → zM → Option (Int32 × zM)
  | 0 => fun _ _ _ _ _ _ => none
  | n + 1 => fun p0 x2 x3 x4 x5 M => (if (60 : Int32) < x5 then (if x2 = 0 then some (x4, M) else zrc S (p0) 12 66 ((gX12_worstAt S (p0) (x3) (x4) M).bind (fun v1 => some (v1, M)))) else zrc S (p0) 12 66 ((gX12_worstAt S (p0) (x3) (x5) M).bind (fun v2 => zrc S (p0) 12 66 ((gX12_worstAt S (p0) (x3) (x4) M).bind (fun v3 => (if v3 ≤ v2 then (gX12_ask_114 S   n) (p0) (x2) (x3) (x4) ((x5 + (1 : Int32))) M else (gX12_ask_114 S   n) (p0) (x2) (x3) (x5) ((x5 + (1 : Int32))) M))))))
set_option maxHeartbeats 4000000 in
set_option maxRecDepth 100000 in
theorem t_X12_ask_114 (w : zWd) (S : List (Nat × Nat)) (fu : Nat) : ∀ (p0 : Nat) (x2 : Int32) (x3 : Int32) (x4 : Int32) (x5 : Int32) (M : zM), AJ (zfIM S) w 10 mX12_ask 114 [(0, .ref (p0)), (2, .int (x2)), (3, .int (x3)), (4, .int (x4)), (5, .int (x5))] [] (S, M) (gX12_ask_114 S fu p0 x2 x3 x4 x5 M) := by
  induction fu with
  | zero => intro p0 x2 x3 x4 x5 M; exact AJ.none
  | succ n ih =>
    intro p0 x2 x3 x4 x5 M
    unfold gX12_ask_114
    refine aj_iload (4) dX12_ask_114 rfl ?_
    refine aj_bipush (v := (60 : Int32)) dX12_ask_116 (by decide) ?_
    refine aj_icmp_gt (tgt := 148) dX12_ask_118 (by decide) (fun h => ?_) (fun h => ?_)
    · refine aj_iload_n (1) dX12_ask_148 rfl rfl ?_
      refine aj_if_ne (tgt := 157) dX12_ask_149 (by decide) (fun h => ?_) (fun h => ?_)
      · refine aj_aload_n (0) dX12_ask_157 rfl rfl ?_
        refine aj_iload_n (2) dX12_ask_158 rfl rfl ?_
        refine aj_iload (3) dX12_ask_159 rfl ?_
        refine rV_I (as := [.int (x3), .int (x4)]) (c_X12_worstAt w S _ _ _ _) mv_X12_worstAt rfl zg_1991 (by decide) (Nat.le_of_ble_eq_true rfl) dX12_ask_161 (fun v1 => ?_)
        exact aj_iret dX12_ask_164 rfl rfl rfl
      refine aj_iload (3) dX12_ask_152 rfl ?_
      refine aj_goto (tgt := 164) dX12_ask_154 (by decide) ?_
      exact aj_iret dX12_ask_164 rfl rfl rfl
    refine aj_aload_n (0) dX12_ask_121 rfl rfl ?_
    refine aj_iload_n (2) dX12_ask_122 rfl rfl ?_
    refine aj_iload (4) dX12_ask_123 rfl ?_
    refine rV_I (as := [.int (x3), .int (x5)]) (c_X12_worstAt w S _ _ _ _) mv_X12_worstAt rfl zg_1991 (by decide) (Nat.le_of_ble_eq_true rfl) dX12_ask_125 (fun v2 => ?_)
    refine aj_aload_n (0) dX12_ask_128 rfl rfl ?_
    refine aj_iload_n (2) dX12_ask_129 rfl rfl ?_
    refine aj_iload (3) dX12_ask_130 rfl ?_
    refine rV_I (as := [.int (x3), .int (x4)]) (c_X12_worstAt w S _ _ _ _) mv_X12_worstAt rfl zg_1991 (by decide) (Nat.le_of_ble_eq_true rfl) dX12_ask_132 (fun v3 => ?_)
    refine aj_icmp_ge (tgt := 142) dX12_ask_135 (by decide) (fun h => ?_) (fun h => ?_)
    · refine aj_iinc (j := 4) (v := (x5 + (1 : Int32))) (ls2 := [(5, .int ((x5 + (1 : Int32)))), (0, .ref (p0)), (2, .int (x2)), (3, .int (x3)), (4, .int (x4))]) dX12_ask_142 rfl rfl (Nat.le_of_ble_eq_true rfl) rfl ?_
      refine aj_goto (tgt := 114) dX12_ask_145 (by decide) ?_
      refine AJ.sub [1, 2, 3, 4, 0] rfl ?_
      exact ih (p0) (x2) (x3) (x4) ((x5 + (1 : Int32))) M
    refine aj_iload (4) dX12_ask_138 rfl ?_
    refine aj_istore (ls2 := [(4, .int (x5)), (0, .ref (p0)), (2, .int (x2)), (3, .int (x3)), (5, .int (x5))]) dX12_ask_140 (Nat.le_of_ble_eq_true rfl) rfl ?_
    refine aj_iinc (j := 4) (v := (x5 + (1 : Int32))) (ls2 := [(5, .int ((x5 + (1 : Int32)))), (4, .int (x5)), (0, .ref (p0)), (2, .int (x2)), (3, .int (x3))]) dX12_ask_142 rfl rfl (Nat.le_of_ble_eq_true rfl) rfl ?_
    refine aj_goto (tgt := 114) dX12_ask_145 (by decide) ?_
    refine AJ.sub [2, 3, 4, 1, 0] rfl ?_
    exact ih (p0) (x2) (x3) (x5) ((x5 + (1 : Int32))) M
def gX12_ask_59 (S : List (Nat × Nat)) (k38 : Nat → Int32 → Int32 → Int32 → zM → Option (Int32 × zM)) : Nat → Nat → Int32 → Int32 → Int32 → Int32 → zM → Option (Int32 × zM)
  | 0 => fun _ _ _ _ _ _ => none
  | n + 1 => fun p0 x2 x3 x4 x5 M => (if (60 : Int32) < x5 then k38 (p0) (x2) (x3) ((x4 + (1 : Int32))) M else zrc S (p0) 12 66 ((gX12_passes S (p0) ((1 : Int32)) ((0 : Int32)) M).bind (fun M1 => zgR S M1 (p0) 12 66 65 (fun r2 => zgR S M1 (p0) 12 66 39 (fun r3 => zaI S M1 100 (r3) ((1 : Int32)) (fun v4 => zbI S M1 (r2) ((((61 : Int32) * x4) + x5)) (v4) (fun M5 => (gX12_ask_59 S  k38 n) (p0) (x2) (x3) (x4) ((x5 + (1 : Int32))) M5)))))))
set_option maxHeartbeats 4000000 in
set_option maxRecDepth 100000 in
theorem t_X12_ask_59 (w : zWd) (S : List (Nat × Nat)) (k38 : Nat → Int32 → Int32 → Int32 → zM → Option (Int32 × zM)) (hk38 : ∀ (p0 : Nat) (x2 : Int32) (x3 : Int32) (x4 : Int32) (M : zM), AJ (zfIM S) w 10 mX12_ask 38 [(0, .ref (p0)), (2, .int (x2)), (3, .int (x3)), (4, .int (x4))] [] (S, M) (k38 p0 x2 x3 x4 M)) (fu : Nat) : ∀ (p0 : Nat) (x2 : Int32) (x3 : Int32) (x4 : Int32) (x5 : Int32) (M : zM), AJ (zfIM S) w 10 mX12_ask 59 [(0, .ref (p0)), (2, .int (x2)), (3, .int (x3)), (4, .int (x4)), (5, .int (x5))] [] (S, M) (gX12_ask_59 S k38 fu p0 x2 x3 x4 x5 M) := by
  induction fu with
  | zero => intro p0 x2 x3 x4 x5 M; exact AJ.none
  | succ n ih =>
    intro p0 x2 x3 x4 x5 M
    unfold gX12_ask_59
    refine aj_iload (4) dX12_ask_59 rfl ?_
    refine aj_bipush (v := (60 : Int32)) dX12_ask_61 (by decide) ?_
    refine aj_icmp_gt (tgt := 97) dX12_ask_63 (by decide) (fun h => ?_) (fun h => ?_)
    · refine aj_iinc (j := 3) (v := (x4 + (1 : Int32))) (ls2 := [(4, .int ((x4 + (1 : Int32)))), (0, .ref (p0)), (2, .int (x2)), (3, .int (x3)), (5, .int (x5))]) dX12_ask_97 rfl rfl (Nat.le_of_ble_eq_true rfl) rfl ?_
      refine aj_goto (tgt := 38) dX12_ask_100 (by decide) ?_
      refine AJ.sub [1, 2, 3, 0] rfl ?_
      exact hk38 (p0) (x2) (x3) ((x4 + (1 : Int32))) M
    refine aj_aload_n (0) dX12_ask_66 rfl rfl ?_
    refine aj_iconst (v := (1 : Int32)) dX12_ask_67 (by decide) ?_
    refine aj_iconst (v := (0 : Int32)) dX12_ask_68 (by decide) ?_
    refine rV_VM (as := [.int ((1 : Int32)), .int ((0 : Int32))]) (c_X12_passes w S _ _ _ _) mv_X12_passes rfl zg_1795 (by decide) (Nat.le_of_ble_eq_true rfl) dX12_ask_69 (fun M1 => ?_)
    refine aj_aload_n (0) dX12_ask_72 rfl rfl ?_
    refine aj_getR (TX := TX12) zc12 (by decide) rfl (Or.inl zg_1415) dX12_ask_73 (fun r2 => ?_)
    refine aj_bipush (v := (61 : Int32)) dX12_ask_76 (by decide) ?_
    refine aj_iload (3) dX12_ask_78 rfl ?_
    refine aj_imul dX12_ask_80 ?_
    refine aj_iload (4) dX12_ask_81 rfl ?_
    refine aj_iadd dX12_ask_83 ?_
    refine aj_aload_n (0) dX12_ask_84 rfl rfl ?_
    refine aj_getR (TX := TX12) zc12 (by decide) rfl (Or.inl zg_1389) dX12_ask_85 (fun r3 => ?_)
    refine aj_iconst (v := (1 : Int32)) dX12_ask_88 (by decide) ?_
    refine r_iald dX12_ask_89 (fun v4 => ?_)
    refine r_iast dX12_ask_90 (fun M5 => ?_)
    refine aj_iinc (j := 4) (v := (x5 + (1 : Int32))) (ls2 := [(5, .int ((x5 + (1 : Int32)))), (0, .ref (p0)), (2, .int (x2)), (3, .int (x3)), (4, .int (x4))]) dX12_ask_91 rfl rfl (Nat.le_of_ble_eq_true rfl) rfl ?_
    refine aj_goto (tgt := 59) dX12_ask_94 (by decide) ?_
    refine AJ.sub [1, 2, 3, 4, 0] rfl ?_
    exact ih (p0) (x2) (x3) (x4) ((x5 + (1 : Int32))) M5
def gX12_ask_38 (S : List (Nat × Nat)) : Nat → Nat → Int32 → Int32 → Int32 → zM → Option (Int32 × zM)
  | 0 => fun _ _ _ _ _ => none
  | n + 1 => fun p0 x2 x3 x4 M => (if (24 : Int32) ≤ x4 then zpI S M (p0) 12 66 49 ((-1 : Int32)) (fun M1 => gX12_ask_114 S zfu (p0) (x2) (x3) ((1 : Int32)) ((2 : Int32)) M1) else zpI S M (p0) 12 66 50 (x4) (fun M2 => zrc S (p0) 12 66 ((gX12_starts S (p0) ((1 : Int32)) M2).bind (fun M3 => gX12_ask_59 S (gX12_ask_38 S   n) zfu (p0) (x2) (x3) (x4) ((1 : Int32)) M3))))
set_option maxHeartbeats 4000000 in
set_option maxRecDepth 100000 in
theorem t_X12_ask_38 (w : zWd) (S : List (Nat × Nat)) (fu : Nat) : ∀ (p0 : Nat) (x2 : Int32) (x3 : Int32) (x4 : Int32) (M : zM), AJ (zfIM S) w 10 mX12_ask 38 [(0, .ref (p0)), (2, .int (x2)), (3, .int (x3)), (4, .int (x4))] [] (S, M) (gX12_ask_38 S fu p0 x2 x3 x4 M) := by
  induction fu with
  | zero => intro p0 x2 x3 x4 M; exact AJ.none
  | succ n ih =>
    intro p0 x2 x3 x4 M
    unfold gX12_ask_38
    refine aj_iload (3) dX12_ask_38 rfl ?_
    refine aj_bipush (v := (24 : Int32)) dX12_ask_40 (by decide) ?_
    refine aj_icmp_ge (tgt := 103) dX12_ask_42 (by decide) (fun h => ?_) (fun h => ?_)
    · refine aj_aload_n (0) dX12_ask_103 rfl rfl ?_
      refine aj_iconst (v := (-1 : Int32)) dX12_ask_104 (by decide) ?_
      refine r_putI (TX := TX12) zc12 (by decide) rfl rfl rfl rfl (Or.inl zg_1399) dX12_ask_105 (fun M1 => ?_)
      refine aj_iconst (v := (1 : Int32)) dX12_ask_108 (by decide) ?_
      refine aj_istore (ls2 := [(4, .int ((1 : Int32))), (0, .ref (p0)), (2, .int (x2)), (3, .int (x3))]) dX12_ask_109 (Nat.le_of_ble_eq_true rfl) rfl ?_
      refine aj_iconst (v := (2 : Int32)) dX12_ask_111 (by decide) ?_
      refine aj_istore (ls2 := [(5, .int ((2 : Int32))), (4, .int ((1 : Int32))), (0, .ref (p0)), (2, .int (x2)), (3, .int (x3))]) dX12_ask_112 (Nat.le_of_ble_eq_true rfl) rfl ?_
      refine AJ.sub [2, 3, 4, 1, 0] rfl ?_
      exact t_X12_ask_114 w S zfu (p0) (x2) (x3) ((1 : Int32)) ((2 : Int32)) M1
    refine aj_aload_n (0) dX12_ask_45 rfl rfl ?_
    refine aj_iload (3) dX12_ask_46 rfl ?_
    refine r_putI (TX := TX12) zc12 (by decide) rfl rfl rfl rfl (Or.inl zg_1400) dX12_ask_48 (fun M2 => ?_)
    refine aj_aload_n (0) dX12_ask_51 rfl rfl ?_
    refine aj_iconst (v := (1 : Int32)) dX12_ask_52 (by decide) ?_
    refine rV_VM (as := [.int ((1 : Int32))]) (c_X12_starts w S _ _ _) mv_X12_starts rfl zg_1346 (by decide) (Nat.le_of_ble_eq_true rfl) dX12_ask_53 (fun M3 => ?_)
    refine aj_iconst (v := (1 : Int32)) dX12_ask_56 (by decide) ?_
    refine aj_istore (ls2 := [(5, .int ((1 : Int32))), (0, .ref (p0)), (2, .int (x2)), (3, .int (x3)), (4, .int (x4))]) dX12_ask_57 (Nat.le_of_ble_eq_true rfl) rfl ?_
    refine AJ.sub [1, 2, 3, 4, 0] rfl ?_
    exact t_X12_ask_59 w S (gX12_ask_38 S   n) ih zfu (p0) (x2) (x3) (x4) ((1 : Int32)) M3
def gX12_ask (S : List (Nat × Nat)) (p0 : Nat) (x1 : Int32) (x2 : Int32) (M : zM) : Option (Int32 × zM) := zpI S M (p0) 12 66 0 ((0 : Int32)) (fun M1 => zrc S (p0) 12 66 ((gX12_isTrade S (p0) (x1) M1).bind (fun v2 => (if v2 = 0 then some ((-1 : Int32), M1) else (if x2 < 0 then some ((-1 : Int32), M1) else (if x2 ≤ (1 : Int32) then zrc S (p0) 12 66 (zb2 (gX12_hoursOf S (p0) (x1) M1) (fun v3 M4 => zpI S M4 (p0) 12 66 49 (x1) (fun M5 => gX12_ask_38 S zfu (p0) (x2) (v3) ((0 : Int32)) M5))) else some ((-1 : Int32), M1)))))))
set_option maxHeartbeats 4000000 in
set_option maxRecDepth 100000 in
theorem c_X12_ask (w : zWd) (S : List (Nat × Nat)) (p0 : Nat) (x1 : Int32) (x2 : Int32) (M : zM) : CT (zfIM S) w 10 mX12_ask [.ref (p0), .int (x1), .int (x2)] (S, M) (gX12_ask S p0 x1 x2 M) := by
  refine CT.of (by decide) (Nat.le_of_ble_eq_true rfl) ?_
  show AJ _ _ _ _ 0 [(0, .ref (p0)), (1, .int (x1)), (2, .int (x2))] [] _ _
  unfold gX12_ask
  refine aj_aload_n (0) dX12_ask_0 rfl rfl ?_
  refine aj_iconst (v := (0 : Int32)) dX12_ask_1 (by decide) ?_
  refine r_putI (TX := TX12) zc12 (by decide) rfl rfl rfl rfl (Or.inl zg_1350) dX12_ask_2 (fun M1 => ?_)
  refine aj_aload_n (0) dX12_ask_5 rfl rfl ?_
  refine aj_iload_n (1) dX12_ask_6 rfl rfl ?_
  refine rV_I (as := [.int (x1)]) (c_X12_isTrade w S _ _ _) mv_X12_isTrade rfl zg_1694 (by decide) (Nat.le_of_ble_eq_true rfl) dX12_ask_7 (fun v2 => ?_)
  refine aj_if_eq (tgt := 22) dX12_ask_10 (by decide) (fun h => ?_) (fun h => ?_)
  · refine aj_iconst (v := (-1 : Int32)) dX12_ask_22 (by decide) ?_
    exact aj_iret dX12_ask_23 rfl rfl rfl
  refine aj_iload_n (2) dX12_ask_13 rfl rfl ?_
  refine aj_if_lt (tgt := 22) dX12_ask_14 (by decide) (fun h => ?_) (fun h => ?_)
  · refine aj_iconst (v := (-1 : Int32)) dX12_ask_22 (by decide) ?_
    exact aj_iret dX12_ask_23 rfl rfl rfl
  refine aj_iload_n (2) dX12_ask_17 rfl rfl ?_
  refine aj_iconst (v := (1 : Int32)) dX12_ask_18 (by decide) ?_
  refine aj_icmp_le (tgt := 24) dX12_ask_19 (by decide) (fun h => ?_) (fun h => ?_)
  · refine aj_aload_n (0) dX12_ask_24 rfl rfl ?_
    refine aj_iload_n (1) dX12_ask_25 rfl rfl ?_
    refine rV_IM (as := [.int (x1)]) (c_X12_hoursOf w S _ _ _) mv_X12_hoursOf rfl zg_1971 (by decide) (Nat.le_of_ble_eq_true rfl) dX12_ask_26 (fun v3 M4 => ?_)
    refine aj_istore_n (ls2 := [(3, .int (v3)), (0, .ref (p0)), (1, .int (x1)), (2, .int (x2))]) dX12_ask_29 rfl (Nat.le_of_ble_eq_true rfl) rfl ?_
    refine aj_aload_n (1) dX12_ask_30 rfl rfl ?_
    refine aj_iload_n (2) dX12_ask_31 rfl rfl ?_
    refine r_putI (TX := TX12) zc12 (by decide) rfl rfl rfl rfl (Or.inl zg_1399) dX12_ask_32 (fun M5 => ?_)
    refine aj_iconst (v := (0 : Int32)) dX12_ask_35 (by decide) ?_
    refine aj_istore (ls2 := [(4, .int ((0 : Int32))), (3, .int (v3)), (0, .ref (p0)), (1, .int (x1)), (2, .int (x2))]) dX12_ask_36 (Nat.le_of_ble_eq_true rfl) rfl ?_
    refine AJ.sub [2, 4, 1, 0] rfl ?_
    exact t_X12_ask_38 w S zfu (p0) (x2) (v3) ((0 : Int32)) M5
  refine aj_iconst (v := (-1 : Int32)) dX12_ask_22 (by decide) ?_
  exact aj_iret dX12_ask_23 rfl rfl rfl
def gX12_chance_63 (S : List (Nat × Nat)) (k39 : Nat → Int32 → Int32 → Int32 → Int32 → Int32 → zM → Option (Int32 × zM)) : Nat → Nat → Int32 → Int32 → Int32 → Int32 → Int32 → zM → Option (Int32 × zM)
  | 0 => fun _ _ _ _ _ _ _ => none
  | n + 1 => fun p0 x2 x3 x5 x6 x7 M => (if x2 ≤ x7 then zgR S M (p0) 12 66 34 (fun r1 => zaI S M 100 (r1) ((1 : Int32)) (fun v2 => zrc S (p0) 12 66 ((gX12_isDone S (p0) ((1 : Int32)) (x3) M).bind (fun v3 => (if v3 = 0 then k39 (p0) (x2) (x3) (v2) ((x5 + (0 : Int32))) ((x6 + (1 : Int32))) M else k39 (p0) (x2) (x3) (v2) ((x5 + (1 : Int32))) ((x6 + (1 : Int32))) M))))) else zrc S (p0) 12 66 ((gX12_passes S (p0) ((1 : Int32)) ((1 : Int32)) M).bind (fun M4 => (gX12_chance_63 S  k39 n) (p0) (x2) (x3) (x5) (x6) ((x7 + (1 : Int32))) M4)))
set_option maxHeartbeats 4000000 in
set_option maxRecDepth 100000 in
theorem t_X12_chance_63 (w : zWd) (S : List (Nat × Nat)) (k39 : Nat → Int32 → Int32 → Int32 → Int32 → Int32 → zM → Option (Int32 × zM)) (hk39 : ∀ (p0 : Nat) (x2 : Int32) (x3 : Int32) (x4 : Int32) (x5 : Int32) (x6 : Int32) (M : zM), AJ (zfIM S) w 8 mX12_chance 39 [(0, .ref (p0)), (2, .int (x2)), (3, .int (x3)), (4, .int (x4)), (5, .int (x5)), (6, .int (x6))] [] (S, M) (k39 p0 x2 x3 x4 x5 x6 M)) (fu : Nat) : ∀ (p0 : Nat) (x2 : Int32) (x3 : Int32) (x5 : Int32) (x6 : Int32) (x7 : Int32) (M : zM), AJ (zfIM S) w 8 mX12_chance 63 [(0, .ref (p0)), (2, .int (x2)), (3, .int (x3)), (5, .int (x5)), (6, .int (x6)), (7, .int (x7))] [] (S, M) (gX12_chance_63 S k39 fu p0 x2 x3 x5 x6 x7 M) := by
  induction fu with
  | zero => intro p0 x2 x3 x5 x6 x7 M; exact AJ.none
  | succ n ih =>
    intro p0 x2 x3 x5 x6 x7 M
    unfold gX12_chance_63
    refine aj_iload (5) dX12_chance_63 rfl ?_
    refine aj_iload_n (1) dX12_chance_65 rfl rfl ?_
    refine aj_icmp_ge (tgt := 81) dX12_chance_66 (by decide) (fun h => ?_) (fun h => ?_)
    · refine aj_aload_n (0) dX12_chance_81 rfl rfl ?_
      refine aj_getR (TX := TX12) zc12 (by decide) rfl (Or.inl zg_1384) dX12_chance_82 (fun r1 => ?_)
      refine aj_iconst (v := (1 : Int32)) dX12_chance_85 (by decide) ?_
      refine r_iald dX12_chance_86 (fun v2 => ?_)
      refine aj_istore (ls2 := [(4, .int (v2)), (0, .ref (p0)), (2, .int (x2)), (3, .int (x3)), (5, .int (x5)), (6, .int (x6)), (7, .int (x7))]) dX12_chance_87 (Nat.le_of_ble_eq_true rfl) rfl ?_
      refine aj_iload (4) dX12_chance_89 rfl ?_
      refine aj_aload_n (1) dX12_chance_91 rfl rfl ?_
      refine aj_iconst (v := (1 : Int32)) dX12_chance_92 (by decide) ?_
      refine aj_iload_n (3) dX12_chance_93 rfl rfl ?_
      refine rV_I (as := [.int ((1 : Int32)), .int (x3)]) (c_X12_isDone w S _ _ _ _) mv_X12_isDone rfl zg_1739 (by decide) (Nat.le_of_ble_eq_true rfl) dX12_chance_94 (fun v3 => ?_)
      refine aj_if_eq (tgt := 104) dX12_chance_97 (by decide) (fun h => ?_) (fun h => ?_)
      · refine aj_iconst (v := (0 : Int32)) dX12_chance_104 (by decide) ?_
        refine aj_iadd dX12_chance_105 ?_
        refine aj_istore (ls2 := [(5, .int ((x5 + (0 : Int32)))), (4, .int (v2)), (0, .ref (p0)), (2, .int (x2)), (3, .int (x3)), (6, .int (x6)), (7, .int (x7))]) dX12_chance_106 (Nat.le_of_ble_eq_true rfl) rfl ?_
        refine aj_iinc (j := 5) (v := (x6 + (1 : Int32))) (ls2 := [(6, .int ((x6 + (1 : Int32)))), (5, .int ((x5 + (0 : Int32)))), (4, .int (v2)), (0, .ref (p0)), (2, .int (x2)), (3, .int (x3)), (7, .int (x7))]) dX12_chance_108 rfl rfl (Nat.le_of_ble_eq_true rfl) rfl ?_
        refine aj_goto (tgt := 39) dX12_chance_111 (by decide) ?_
        refine AJ.sub [3, 4, 5, 2, 1, 0] rfl ?_
        exact hk39 (p0) (x2) (x3) (v2) ((x5 + (0 : Int32))) ((x6 + (1 : Int32))) M
      refine aj_iconst (v := (1 : Int32)) dX12_chance_100 (by decide) ?_
      refine aj_goto (tgt := 105) dX12_chance_101 (by decide) ?_
      refine aj_iadd dX12_chance_105 ?_
      refine aj_istore (ls2 := [(5, .int ((x5 + (1 : Int32)))), (4, .int (v2)), (0, .ref (p0)), (2, .int (x2)), (3, .int (x3)), (6, .int (x6)), (7, .int (x7))]) dX12_chance_106 (Nat.le_of_ble_eq_true rfl) rfl ?_
      refine aj_iinc (j := 5) (v := (x6 + (1 : Int32))) (ls2 := [(6, .int ((x6 + (1 : Int32)))), (5, .int ((x5 + (1 : Int32)))), (4, .int (v2)), (0, .ref (p0)), (2, .int (x2)), (3, .int (x3)), (7, .int (x7))]) dX12_chance_108 rfl rfl (Nat.le_of_ble_eq_true rfl) rfl ?_
      refine aj_goto (tgt := 39) dX12_chance_111 (by decide) ?_
      refine AJ.sub [3, 4, 5, 2, 1, 0] rfl ?_
      exact hk39 (p0) (x2) (x3) (v2) ((x5 + (1 : Int32))) ((x6 + (1 : Int32))) M
    refine aj_aload_n (0) dX12_chance_69 rfl rfl ?_
    refine aj_iconst (v := (1 : Int32)) dX12_chance_70 (by decide) ?_
    refine aj_iconst (v := (1 : Int32)) dX12_chance_71 (by decide) ?_
    refine rV_VM (as := [.int ((1 : Int32)), .int ((1 : Int32))]) (c_X12_passes w S _ _ _ _) mv_X12_passes rfl zg_1795 (by decide) (Nat.le_of_ble_eq_true rfl) dX12_chance_72 (fun M4 => ?_)
    refine aj_iinc (j := 5) (v := (x7 + (1 : Int32))) (ls2 := [(7, .int ((x7 + (1 : Int32)))), (0, .ref (p0)), (2, .int (x2)), (3, .int (x3)), (5, .int (x5)), (6, .int (x6))]) dX12_chance_75 rfl rfl (Nat.le_of_ble_eq_true rfl) rfl ?_
    refine aj_goto (tgt := 63) dX12_chance_78 (by decide) ?_
    refine AJ.sub [1, 2, 3, 4, 5, 0] rfl ?_
    exact ih (p0) (x2) (x3) (x5) (x6) ((x7 + (1 : Int32))) M4
def gX12_chance_39 (S : List (Nat × Nat)) : Nat → Nat → Int32 → Int32 → Int32 → Int32 → Int32 → zM → Option (Int32 × zM)
  | 0 => fun _ _ _ _ _ _ _ => none
  | n + 1 => fun p0 x2 x3 x4 x5 x6 M => (if (10 : Int32) ≤ x6 then some (x5, M) else zrc S (p0) 12 66 ((gX12_copies S (p0) ((1 : Int32)) ((0 : Int32)) M).bind (fun M1 => zgR S M1 (p0) 12 66 34 (fun r2 => zbI S M1 (r2) ((1 : Int32)) (x4) (fun M3 => gX12_chance_63 S (gX12_chance_39 S   n) zfu (p0) (x2) (x3) (x5) (x6) ((0 : Int32)) M3)))))
set_option maxHeartbeats 4000000 in
set_option maxRecDepth 100000 in
theorem t_X12_chance_39 (w : zWd) (S : List (Nat × Nat)) (fu : Nat) : ∀ (p0 : Nat) (x2 : Int32) (x3 : Int32) (x4 : Int32) (x5 : Int32) (x6 : Int32) (M : zM), AJ (zfIM S) w 8 mX12_chance 39 [(0, .ref (p0)), (2, .int (x2)), (3, .int (x3)), (4, .int (x4)), (5, .int (x5)), (6, .int (x6))] [] (S, M) (gX12_chance_39 S fu p0 x2 x3 x4 x5 x6 M) := by
  induction fu with
  | zero => intro p0 x2 x3 x4 x5 x6 M; exact AJ.none
  | succ n ih =>
    intro p0 x2 x3 x4 x5 x6 M
    unfold gX12_chance_39
    refine aj_iload (5) dX12_chance_39 rfl ?_
    refine aj_bipush (v := (10 : Int32)) dX12_chance_41 (by decide) ?_
    refine aj_icmp_ge (tgt := 114) dX12_chance_43 (by decide) (fun h => ?_) (fun h => ?_)
    · refine aj_iload (4) dX12_chance_114 rfl ?_
      exact aj_iret dX12_chance_116 rfl rfl rfl
    refine aj_aload_n (0) dX12_chance_46 rfl rfl ?_
    refine aj_iconst (v := (1 : Int32)) dX12_chance_47 (by decide) ?_
    refine aj_iconst (v := (0 : Int32)) dX12_chance_48 (by decide) ?_
    refine rV_VM (as := [.int ((1 : Int32)), .int ((0 : Int32))]) (c_X12_copies w S _ _ _ _) mv_X12_copies rfl zg_1779 (by decide) (Nat.le_of_ble_eq_true rfl) dX12_chance_49 (fun M1 => ?_)
    refine aj_aload_n (0) dX12_chance_52 rfl rfl ?_
    refine aj_getR (TX := TX12) zc12 (by decide) rfl (Or.inl zg_1384) dX12_chance_53 (fun r2 => ?_)
    refine aj_iconst (v := (1 : Int32)) dX12_chance_56 (by decide) ?_
    refine aj_iload (3) dX12_chance_57 rfl ?_
    refine r_iast dX12_chance_59 (fun M3 => ?_)
    refine aj_iconst (v := (0 : Int32)) dX12_chance_60 (by decide) ?_
    refine aj_istore (ls2 := [(7, .int ((0 : Int32))), (0, .ref (p0)), (2, .int (x2)), (3, .int (x3)), (4, .int (x4)), (5, .int (x5)), (6, .int (x6))]) dX12_chance_61 (Nat.le_of_ble_eq_true rfl) rfl ?_
    refine AJ.sub [1, 2, 3, 5, 6, 0] rfl ?_
    exact t_X12_chance_63 w S (gX12_chance_39 S   n) ih zfu (p0) (x2) (x3) (x5) (x6) ((0 : Int32)) M3
def gX12_chance (S : List (Nat × Nat)) (p0 : Nat) (x1 : Int32) (x2 : Int32) (x3 : Int32) (M : zM) : Option (Int32 × zM) := zpI S M (p0) 12 66 0 ((0 : Int32)) (fun M1 => (if x1 < 0 then some ((-1 : Int32), M1) else (if x2 < (1 : Int32) then some ((-1 : Int32), M1) else (if (99 : Int32) < x2 then some ((-1 : Int32), M1) else zrc S (p0) 12 66 ((gX12_isWork S (p0) (x3) M1).bind (fun v2 => (if v2 = 0 then some ((-1 : Int32), M1) else gX12_chance_39 S zfu (p0) (x2) (x3) (x1) ((0 : Int32)) ((0 : Int32)) M1)))))))
set_option maxHeartbeats 4000000 in
set_option maxRecDepth 100000 in
theorem c_X12_chance (w : zWd) (S : List (Nat × Nat)) (p0 : Nat) (x1 : Int32) (x2 : Int32) (x3 : Int32) (M : zM) : CT (zfIM S) w 8 mX12_chance [.ref (p0), .int (x1), .int (x2), .int (x3)] (S, M) (gX12_chance S p0 x1 x2 x3 M) := by
  refine CT.of (by decide) (Nat.le_of_ble_eq_true rfl) ?_
  show AJ _ _ _ _ 0 [(0, .ref (p0)), (1, .int (x1)), (2, .int (x2)), (3, .int (x3))] [] _ _
  unfold gX12_chance
  refine aj_aload_n (0) dX12_chance_0 rfl rfl ?_
  refine aj_iconst (v := (0 : Int32)) dX12_chance_1 (by decide) ?_
  refine r_putI (TX := TX12) zc12 (by decide) rfl rfl rfl rfl (Or.inl zg_1350) dX12_chance_2 (fun M1 => ?_)
  refine aj_iload_n (1) dX12_chance_5 rfl rfl ?_
  refine aj_if_lt (tgt := 28) dX12_chance_6 (by decide) (fun h => ?_) (fun h => ?_)
  · refine aj_iconst (v := (-1 : Int32)) dX12_chance_28 (by decide) ?_
    exact aj_iret dX12_chance_29 rfl rfl rfl
  refine aj_iload_n (2) dX12_chance_9 rfl rfl ?_
  refine aj_iconst (v := (1 : Int32)) dX12_chance_10 (by decide) ?_
  refine aj_icmp_lt (tgt := 28) dX12_chance_11 (by decide) (fun h => ?_) (fun h => ?_)
  · refine aj_iconst (v := (-1 : Int32)) dX12_chance_28 (by decide) ?_
    exact aj_iret dX12_chance_29 rfl rfl rfl
  refine aj_iload_n (2) dX12_chance_14 rfl rfl ?_
  refine aj_bipush (v := (99 : Int32)) dX12_chance_15 (by decide) ?_
  refine aj_icmp_gt (tgt := 28) dX12_chance_17 (by decide) (fun h => ?_) (fun h => ?_)
  · refine aj_iconst (v := (-1 : Int32)) dX12_chance_28 (by decide) ?_
    exact aj_iret dX12_chance_29 rfl rfl rfl
  refine aj_aload_n (0) dX12_chance_20 rfl rfl ?_
  refine aj_iload_n (3) dX12_chance_21 rfl rfl ?_
  refine rV_I (as := [.int (x3)]) (c_X12_isWork w S _ _ _) mv_X12_isWork rfl zg_1714 (by decide) (Nat.le_of_ble_eq_true rfl) dX12_chance_22 (fun v2 => ?_)
  refine aj_if_ne (tgt := 30) dX12_chance_25 (by decide) (fun h => ?_) (fun h => ?_)
  · refine aj_iload_n (1) dX12_chance_30 rfl rfl ?_
    refine aj_istore (ls2 := [(4, .int (x1)), (0, .ref (p0)), (1, .int (x1)), (2, .int (x2)), (3, .int (x3))]) dX12_chance_31 (Nat.le_of_ble_eq_true rfl) rfl ?_
    refine aj_iconst (v := (0 : Int32)) dX12_chance_33 (by decide) ?_
    refine aj_istore (ls2 := [(5, .int ((0 : Int32))), (4, .int (x1)), (0, .ref (p0)), (1, .int (x1)), (2, .int (x2)), (3, .int (x3))]) dX12_chance_34 (Nat.le_of_ble_eq_true rfl) rfl ?_
    refine aj_iconst (v := (0 : Int32)) dX12_chance_36 (by decide) ?_
    refine aj_istore (ls2 := [(6, .int ((0 : Int32))), (5, .int ((0 : Int32))), (4, .int (x1)), (0, .ref (p0)), (1, .int (x1)), (2, .int (x2)), (3, .int (x3))]) dX12_chance_37 (Nat.le_of_ble_eq_true rfl) rfl ?_
    refine AJ.sub [3, 5, 6, 2, 1, 0] rfl ?_
    exact t_X12_chance_39 w S zfu (p0) (x2) (x3) (x1) ((0 : Int32)) ((0 : Int32)) M1
  refine aj_iconst (v := (-1 : Int32)) dX12_chance_28 (by decide) ?_
  exact aj_iret dX12_chance_29 rfl rfl rfl
def gX12_tried_68 (S : List (Nat × Nat)) (p0 : Nat) (x2 : Int32) (x3 : Int32) (x0s : Int32) (p1s : Nat) (M : zM) : Option (Int32 × zM) := zpI S M (p1s) 12 66 47 (x0s) (fun M1 => zpI S M1 (p0) 12 66 48 (x2) (fun M2 => zrc S (p0) 12 66 ((gX12_goesOn S (p0) (x3) M2).bind (fun M3 => zpI S M3 (p0) 12 66 47 ((0 : Int32)) (fun M4 => zpI S M4 (p0) 12 66 48 ((-1 : Int32)) (fun M5 => zrc S (p0) 12 66 ((gX12_doneMany S (p0) ((1 : Int32)) M5).bind (fun v6 => some (v6, M5)))))))))
set_option maxHeartbeats 4000000 in
set_option maxRecDepth 100000 in
theorem t_X12_tried_68 (w : zWd) (S : List (Nat × Nat)) (p0 : Nat) (x2 : Int32) (x3 : Int32) (x0s : Int32) (p1s : Nat) (M : zM) : AJ (zfIM S) w 9 mX12_tried 68 [(0, .ref (p0)), (2, .int (x2)), (3, .int (x3))] [.int (x0s), .ref (p1s)] (S, M) (gX12_tried_68 S p0 x2 x3 x0s p1s M) := by
  unfold gX12_tried_68
  refine r_putI (TX := TX12) zc12 (by decide) rfl rfl rfl rfl (Or.inl zg_1397) dX12_tried_68 (fun M1 => ?_)
  refine aj_aload_n (0) dX12_tried_71 rfl rfl ?_
  refine aj_iload_n (1) dX12_tried_72 rfl rfl ?_
  refine r_putI (TX := TX12) zc12 (by decide) rfl rfl rfl rfl (Or.inl zg_1398) dX12_tried_73 (fun M2 => ?_)
  refine aj_aload_n (0) dX12_tried_76 rfl rfl ?_
  refine aj_iload_n (2) dX12_tried_77 rfl rfl ?_
  refine rV_VM (as := [.int (x3)]) (c_X12_goesOn w S _ _ _) mv_X12_goesOn rfl zg_1838 (by decide) (Nat.le_of_ble_eq_true rfl) dX12_tried_78 (fun M3 => ?_)
  refine aj_aload_n (0) dX12_tried_81 rfl rfl ?_
  refine aj_iconst (v := (0 : Int32)) dX12_tried_82 (by decide) ?_
  refine r_putI (TX := TX12) zc12 (by decide) rfl rfl rfl rfl (Or.inl zg_1397) dX12_tried_83 (fun M4 => ?_)
  refine aj_aload_n (0) dX12_tried_86 rfl rfl ?_
  refine aj_iconst (v := (-1 : Int32)) dX12_tried_87 (by decide) ?_
  refine r_putI (TX := TX12) zc12 (by decide) rfl rfl rfl rfl (Or.inl zg_1398) dX12_tried_88 (fun M5 => ?_)
  refine aj_aload_n (0) dX12_tried_91 rfl rfl ?_
  refine aj_iconst (v := (1 : Int32)) dX12_tried_92 (by decide) ?_
  refine rV_I (as := [.int ((1 : Int32))]) (c_X12_doneMany w S _ _ _) mv_X12_doneMany rfl zg_1735 (by decide) (Nat.le_of_ble_eq_true rfl) dX12_tried_93 (fun v6 => ?_)
  exact aj_iret dX12_tried_96 rfl rfl rfl
def gX12_tried_36 (S : List (Nat × Nat)) (p0 : Nat) (x1 : Int32) (x2 : Int32) (x3 : Int32) (x0s : Int32) (M : zM) : Option (Int32 × zM) := (if x0s = 0 then some ((-1 : Int32), M) else (gX12_isAhead S (x3) M).bind (fun v1 => (if v1 = 0 then some ((-1 : Int32), M) else zrc S (p0) 12 66 ((gX12_copies S (p0) ((1 : Int32)) ((0 : Int32)) M).bind (fun M2 => (if x1 = 0 then gX12_tried_68 S (p0) (x2) (x3) ((5 : Int32)) (p0) M2 else gX12_tried_68 S (p0) (x2) (x3) (x1) (p0) M2))))))
set_option maxHeartbeats 4000000 in
set_option maxRecDepth 100000 in
theorem t_X12_tried_36 (w : zWd) (S : List (Nat × Nat)) (p0 : Nat) (x1 : Int32) (x2 : Int32) (x3 : Int32) (x0s : Int32) (M : zM) : AJ (zfIM S) w 9 mX12_tried 36 [(0, .ref (p0)), (1, .int (x1)), (2, .int (x2)), (3, .int (x3))] [.int (x0s)] (S, M) (gX12_tried_36 S p0 x1 x2 x3 x0s M) := by
  unfold gX12_tried_36
  refine aj_istore (ls2 := [(4, .int (x0s)), (0, .ref (p0)), (1, .int (x1)), (2, .int (x2)), (3, .int (x3))]) dX12_tried_36 (Nat.le_of_ble_eq_true rfl) rfl ?_
  refine aj_iload (0) dX12_tried_38 rfl ?_
  refine aj_if_eq (tgt := 50) dX12_tried_40 (by decide) (fun h => ?_) (fun h => ?_)
  · refine aj_iconst (v := (-1 : Int32)) dX12_tried_50 (by decide) ?_
    exact aj_iret dX12_tried_51 rfl rfl rfl
  refine aj_iload_n (4) dX12_tried_43 rfl rfl ?_
  refine rS_I (as := [.int (x3)]) (c_X12_isAhead w S _ _) ms_X12_isAhead rfl zg_1827 (by decide) (Nat.le_of_ble_eq_true rfl) dX12_tried_44 (fun v1 => ?_)
  refine aj_if_ne (tgt := 52) dX12_tried_47 (by decide) (fun h => ?_) (fun h => ?_)
  · refine aj_aload_n (1) dX12_tried_52 rfl rfl ?_
    refine aj_iconst (v := (1 : Int32)) dX12_tried_53 (by decide) ?_
    refine aj_iconst (v := (0 : Int32)) dX12_tried_54 (by decide) ?_
    refine rV_VM (as := [.int ((1 : Int32)), .int ((0 : Int32))]) (c_X12_copies w S _ _ _ _) mv_X12_copies rfl zg_1779 (by decide) (Nat.le_of_ble_eq_true rfl) dX12_tried_55 (fun M2 => ?_)
    refine aj_aload_n (1) dX12_tried_58 rfl rfl ?_
    refine aj_iload_n (2) dX12_tried_59 rfl rfl ?_
    refine aj_if_ne (tgt := 67) dX12_tried_60 (by decide) (fun h => ?_) (fun h => ?_)
    · refine aj_iload_n (2) dX12_tried_67 rfl rfl ?_
      refine AJ.sub [1, 3, 4] rfl ?_
      exact t_X12_tried_68 w S (p0) (x2) (x3) (x1) (p0) M2
    refine aj_iconst (v := (5 : Int32)) dX12_tried_63 (by decide) ?_
    refine aj_goto (tgt := 68) dX12_tried_64 (by decide) ?_
    refine AJ.sub [1, 3, 4] rfl ?_
    exact t_X12_tried_68 w S (p0) (x2) (x3) ((5 : Int32)) (p0) M2
  refine aj_iconst (v := (-1 : Int32)) dX12_tried_50 (by decide) ?_
  exact aj_iret dX12_tried_51 rfl rfl rfl
def gX12_tried (S : List (Nat × Nat)) (p0 : Nat) (x1 : Int32) (x2 : Int32) (x3 : Int32) (M : zM) : Option (Int32 × zM) := zpI S M (p0) 12 66 0 ((0 : Int32)) (fun M1 => (if x1 = (2 : Int32) then zrc S (p0) 12 66 ((gX12_isTrade S (p0) (x2) M1).bind (fun v2 => gX12_tried_36 S (p0) (x1) (x2) (x3) (v2) M1)) else (if x1 < 0 then gX12_tried_36 S (p0) (x1) (x2) (x3) ((0 : Int32)) M1 else (if (4 : Int32) < x1 then gX12_tried_36 S (p0) (x1) (x2) (x3) ((0 : Int32)) M1 else (if x2 = 0 then gX12_tried_36 S (p0) (x1) (x2) (x3) ((1 : Int32)) M1 else gX12_tried_36 S (p0) (x1) (x2) (x3) ((0 : Int32)) M1)))))
set_option maxHeartbeats 4000000 in
set_option maxRecDepth 100000 in
theorem c_X12_tried (w : zWd) (S : List (Nat × Nat)) (p0 : Nat) (x1 : Int32) (x2 : Int32) (x3 : Int32) (M : zM) : CT (zfIM S) w 9 mX12_tried [.ref (p0), .int (x1), .int (x2), .int (x3)] (S, M) (gX12_tried S p0 x1 x2 x3 M) := by
  refine CT.of (by decide) (Nat.le_of_ble_eq_true rfl) ?_
  show AJ _ _ _ _ 0 [(0, .ref (p0)), (1, .int (x1)), (2, .int (x2)), (3, .int (x3))] [] _ _
  unfold gX12_tried
  refine aj_aload_n (0) dX12_tried_0 rfl rfl ?_
  refine aj_iconst (v := (0 : Int32)) dX12_tried_1 (by decide) ?_
  refine r_putI (TX := TX12) zc12 (by decide) rfl rfl rfl rfl (Or.inl zg_1350) dX12_tried_2 (fun M1 => ?_)
  refine aj_iload_n (1) dX12_tried_5 rfl rfl ?_
  refine aj_iconst (v := (2 : Int32)) dX12_tried_6 (by decide) ?_
  refine aj_icmp_ne (tgt := 18) dX12_tried_7 (by decide) (fun h => ?_) (fun h => ?_)
  · refine aj_iload_n (1) dX12_tried_18 rfl rfl ?_
    refine aj_if_lt (tgt := 35) dX12_tried_19 (by decide) (fun h => ?_) (fun h => ?_)
    · refine aj_iconst (v := (0 : Int32)) dX12_tried_35 (by decide) ?_
      refine AJ.sub [0, 1, 2, 3] rfl ?_
      exact t_X12_tried_36 w S (p0) (x1) (x2) (x3) ((0 : Int32)) M1
    refine aj_iload_n (1) dX12_tried_22 rfl rfl ?_
    refine aj_iconst (v := (4 : Int32)) dX12_tried_23 (by decide) ?_
    refine aj_icmp_gt (tgt := 35) dX12_tried_24 (by decide) (fun h => ?_) (fun h => ?_)
    · refine aj_iconst (v := (0 : Int32)) dX12_tried_35 (by decide) ?_
      refine AJ.sub [0, 1, 2, 3] rfl ?_
      exact t_X12_tried_36 w S (p0) (x1) (x2) (x3) ((0 : Int32)) M1
    refine aj_iload_n (2) dX12_tried_27 rfl rfl ?_
    refine aj_if_ne (tgt := 35) dX12_tried_28 (by decide) (fun h => ?_) (fun h => ?_)
    · refine aj_iconst (v := (0 : Int32)) dX12_tried_35 (by decide) ?_
      refine AJ.sub [0, 1, 2, 3] rfl ?_
      exact t_X12_tried_36 w S (p0) (x1) (x2) (x3) ((0 : Int32)) M1
    refine aj_iconst (v := (1 : Int32)) dX12_tried_31 (by decide) ?_
    refine aj_goto (tgt := 36) dX12_tried_32 (by decide) ?_
    refine AJ.sub [0, 1, 2, 3] rfl ?_
    exact t_X12_tried_36 w S (p0) (x1) (x2) (x3) ((1 : Int32)) M1
  refine aj_aload_n (0) dX12_tried_10 rfl rfl ?_
  refine aj_iload_n (2) dX12_tried_11 rfl rfl ?_
  refine rV_I (as := [.int (x2)]) (c_X12_isTrade w S _ _ _) mv_X12_isTrade rfl zg_1694 (by decide) (Nat.le_of_ble_eq_true rfl) dX12_tried_12 (fun v2 => ?_)
  refine aj_goto (tgt := 36) dX12_tried_15 (by decide) ?_
  refine AJ.sub [0, 1, 2, 3] rfl ?_
  exact t_X12_tried_36 w S (p0) (x1) (x2) (x3) (v2) M1
def gX12_undo (S : List (Nat × Nat)) (p0 : Nat) (M : zM) : Option (Int32 × zM) := zpI S M (p0) 12 66 0 ((0 : Int32)) (fun M1 => zgI S M1 (p0) 12 66 46 (fun v2 => (if v2 = 0 then some ((-1 : Int32), M1) else zgI S M1 (p0) 12 66 46 (fun v3 => zpI S M1 (p0) 12 66 46 ((v3 - (1 : Int32))) (fun M4 => zgI S M4 (p0) 12 66 46 (fun v5 => zrc S (p0) 12 66 ((gX12_copies S (p0) ((0 : Int32)) (((3 : Int32) + v5)) M4).bind (fun M6 => zgI S M6 (p0) 12 66 46 (fun v7 => some (v7, M6))))))))))
set_option maxHeartbeats 4000000 in
set_option maxRecDepth 100000 in
theorem c_X12_undo (w : zWd) (S : List (Nat × Nat)) (p0 : Nat) (M : zM) : CT (zfIM S) w 2 mX12_undo [.ref (p0)] (S, M) (gX12_undo S p0 M) := by
  refine CT.of (by decide) (Nat.le_of_ble_eq_true rfl) ?_
  show AJ _ _ _ _ 0 [(0, .ref (p0))] [] _ _
  unfold gX12_undo
  refine aj_aload_n (0) dX12_undo_0 rfl rfl ?_
  refine aj_iconst (v := (0 : Int32)) dX12_undo_1 (by decide) ?_
  refine r_putI (TX := TX12) zc12 (by decide) rfl rfl rfl rfl (Or.inl zg_1350) dX12_undo_2 (fun M1 => ?_)
  refine aj_aload_n (0) dX12_undo_5 rfl rfl ?_
  refine r_getI (TX := TX12) zc12 (by decide) rfl (Or.inl zg_1396) dX12_undo_6 (fun v2 => ?_)
  refine aj_if_ne (tgt := 14) dX12_undo_9 (by decide) (fun h => ?_) (fun h => ?_)
  · refine aj_aload_n (0) dX12_undo_14 rfl rfl ?_
    refine aj_dup dX12_undo_15 rfl ?_
    refine r_getI (TX := TX12) zc12 (by decide) rfl (Or.inl zg_1396) dX12_undo_16 (fun v3 => ?_)
    refine aj_iconst (v := (1 : Int32)) dX12_undo_19 (by decide) ?_
    refine aj_isub dX12_undo_20 ?_
    refine r_putI (TX := TX12) zc12 (by decide) rfl rfl rfl rfl (Or.inl zg_1396) dX12_undo_21 (fun M4 => ?_)
    refine aj_aload_n (0) dX12_undo_24 rfl rfl ?_
    refine aj_iconst (v := (0 : Int32)) dX12_undo_25 (by decide) ?_
    refine aj_iconst (v := (3 : Int32)) dX12_undo_26 (by decide) ?_
    refine aj_aload_n (0) dX12_undo_27 rfl rfl ?_
    refine r_getI (TX := TX12) zc12 (by decide) rfl (Or.inl zg_1396) dX12_undo_28 (fun v5 => ?_)
    refine aj_iadd dX12_undo_31 ?_
    refine rV_VM (as := [.int ((0 : Int32)), .int (((3 : Int32) + v5))]) (c_X12_copies w S _ _ _ _) mv_X12_copies rfl zg_1779 (by decide) (Nat.le_of_ble_eq_true rfl) dX12_undo_32 (fun M6 => ?_)
    refine aj_aload_n (0) dX12_undo_35 rfl rfl ?_
    refine r_getI (TX := TX12) zc12 (by decide) rfl (Or.inl zg_1396) dX12_undo_36 (fun v7 => ?_)
    exact aj_iret dX12_undo_39 rfl rfl rfl
  refine aj_iconst (v := (-1 : Int32)) dX12_undo_12 (by decide) ?_
  exact aj_iret dX12_undo_13 rfl rfl rfl
def gX12_keep (S : List (Nat × Nat)) (p0 : Nat) (M : zM) : Option (Int32 × zM) := zpI S M (p0) 12 66 0 ((0 : Int32)) (fun M1 => zrc S (p0) 12 66 ((gX12_copies S (p0) ((2 : Int32)) ((0 : Int32)) M1).bind (fun M2 => zpI S M2 (p0) 12 66 45 ((1 : Int32)) (fun M3 => zgR S M3 (p0) 12 66 33 (fun r4 => zaI S M3 100 (r4) ((0 : Int32)) (fun v5 => some (v5, M3)))))))
set_option maxHeartbeats 4000000 in
set_option maxRecDepth 100000 in
theorem c_X12_keep (w : zWd) (S : List (Nat × Nat)) (p0 : Nat) (M : zM) : CT (zfIM S) w 2 mX12_keep [.ref (p0)] (S, M) (gX12_keep S p0 M) := by
  refine CT.of (by decide) (Nat.le_of_ble_eq_true rfl) ?_
  show AJ _ _ _ _ 0 [(0, .ref (p0))] [] _ _
  unfold gX12_keep
  refine aj_aload_n (0) dX12_keep_0 rfl rfl ?_
  refine aj_iconst (v := (0 : Int32)) dX12_keep_1 (by decide) ?_
  refine r_putI (TX := TX12) zc12 (by decide) rfl rfl rfl rfl (Or.inl zg_1350) dX12_keep_2 (fun M1 => ?_)
  refine aj_aload_n (0) dX12_keep_5 rfl rfl ?_
  refine aj_iconst (v := (2 : Int32)) dX12_keep_6 (by decide) ?_
  refine aj_iconst (v := (0 : Int32)) dX12_keep_7 (by decide) ?_
  refine rV_VM (as := [.int ((2 : Int32)), .int ((0 : Int32))]) (c_X12_copies w S _ _ _ _) mv_X12_copies rfl zg_1779 (by decide) (Nat.le_of_ble_eq_true rfl) dX12_keep_8 (fun M2 => ?_)
  refine aj_aload_n (0) dX12_keep_11 rfl rfl ?_
  refine aj_iconst (v := (1 : Int32)) dX12_keep_12 (by decide) ?_
  refine r_putI (TX := TX12) zc12 (by decide) rfl rfl (by decide +kernel) rfl (Or.inl zg_1395) dX12_keep_13 (fun M3 => ?_)
  refine aj_aload_n (0) dX12_keep_16 rfl rfl ?_
  refine aj_getR (TX := TX12) zc12 (by decide) rfl (Or.inl zg_1383) dX12_keep_17 (fun r4 => ?_)
  refine aj_iconst (v := (0 : Int32)) dX12_keep_20 (by decide) ?_
  refine r_iald dX12_keep_21 (fun v5 => ?_)
  exact aj_iret dX12_keep_22 rfl rfl rfl
def gX12_back (S : List (Nat × Nat)) (p0 : Nat) (M : zM) : Option (Int32 × zM) := zpI S M (p0) 12 66 0 ((0 : Int32)) (fun M1 => zgI S M1 (p0) 12 66 45 (fun v2 => (if v2 = 0 then some ((-1 : Int32), M1) else zrc S (p0) 12 66 ((gX12_copies S (p0) ((0 : Int32)) ((2 : Int32)) M1).bind (fun M3 => zpI S M3 (p0) 12 66 46 ((0 : Int32)) (fun M4 => zgR S M4 (p0) 12 66 33 (fun r5 => zaI S M4 100 (r5) ((0 : Int32)) (fun v6 => some (v6, M4)))))))))
set_option maxHeartbeats 4000000 in
set_option maxRecDepth 100000 in
theorem c_X12_back (w : zWd) (S : List (Nat × Nat)) (p0 : Nat) (M : zM) : CT (zfIM S) w 2 mX12_back [.ref (p0)] (S, M) (gX12_back S p0 M) := by
  refine CT.of (by decide) (Nat.le_of_ble_eq_true rfl) ?_
  show AJ _ _ _ _ 0 [(0, .ref (p0))] [] _ _
  unfold gX12_back
  refine aj_aload_n (0) dX12_back_0 rfl rfl ?_
  refine aj_iconst (v := (0 : Int32)) dX12_back_1 (by decide) ?_
  refine r_putI (TX := TX12) zc12 (by decide) rfl rfl rfl rfl (Or.inl zg_1350) dX12_back_2 (fun M1 => ?_)
  refine aj_aload_n (0) dX12_back_5 rfl rfl ?_
  refine r_getI (TX := TX12) zc12 (by decide) rfl (Or.inl zg_1395) dX12_back_6 (fun v2 => ?_)
  refine aj_if_ne (tgt := 14) dX12_back_9 (by decide) (fun h => ?_) (fun h => ?_)
  · refine aj_aload_n (0) dX12_back_14 rfl rfl ?_
    refine aj_iconst (v := (0 : Int32)) dX12_back_15 (by decide) ?_
    refine aj_iconst (v := (2 : Int32)) dX12_back_16 (by decide) ?_
    refine rV_VM (as := [.int ((0 : Int32)), .int ((2 : Int32))]) (c_X12_copies w S _ _ _ _) mv_X12_copies rfl zg_1779 (by decide) (Nat.le_of_ble_eq_true rfl) dX12_back_17 (fun M3 => ?_)
    refine aj_aload_n (0) dX12_back_20 rfl rfl ?_
    refine aj_iconst (v := (0 : Int32)) dX12_back_21 (by decide) ?_
    refine r_putI (TX := TX12) zc12 (by decide) rfl rfl rfl rfl (Or.inl zg_1396) dX12_back_22 (fun M4 => ?_)
    refine aj_aload_n (0) dX12_back_25 rfl rfl ?_
    refine aj_getR (TX := TX12) zc12 (by decide) rfl (Or.inl zg_1383) dX12_back_26 (fun r5 => ?_)
    refine aj_iconst (v := (0 : Int32)) dX12_back_29 (by decide) ?_
    refine r_iald dX12_back_30 (fun v6 => ?_)
    exact aj_iret dX12_back_31 rfl rfl rfl
  refine aj_iconst (v := (-1 : Int32)) dX12_back_12 (by decide) ?_
  exact aj_iret dX12_back_13 rfl rfl rfl
def gX12_knownAll_4 (S : List (Nat × Nat)) : Nat → Nat → Int32 → Int32 → zM → Option Int32
  | 0 => fun _ _ _ _ => none
  | n + 1 => fun p0 x1 x2 M => zgR S M (p0) 12 66 3 (fun r1 => zaI S M 100 (r1) ((0 : Int32)) (fun v2 => (if v2 ≤ x2 then some (x1) else zgR S M (p0) 12 66 41 (fun r3 => zaI S M 100 (r3) (x2) (fun v4 => (gX12_knownAll_4 S   n) (p0) ((x1 + v4)) ((x2 + (1 : Int32))) M)))))
set_option maxHeartbeats 4000000 in
set_option maxRecDepth 100000 in
theorem t_X12_knownAll_4 (w : zWd) (S : List (Nat × Nat)) (fu : Nat) : ∀ (p0 : Nat) (x1 : Int32) (x2 : Int32) (M : zM), AJ (zfI S M) w 1 mX12_knownAll 4 [(0, .ref (p0)), (1, .int (x1)), (2, .int (x2))] [] (S, M) (gX12_knownAll_4 S fu p0 x1 x2 M) := by
  induction fu with
  | zero => intro p0 x1 x2 M; exact AJ.none
  | succ n ih =>
    intro p0 x1 x2 M
    unfold gX12_knownAll_4
    refine aj_iload_n (2) dX12_knownAll_4 rfl rfl ?_
    refine aj_aload_n (0) dX12_knownAll_5 rfl rfl ?_
    refine aj_getR (TX := TX12) zc12 (by decide) rfl (Or.inl zg_1353) dX12_knownAll_6 (fun r1 => ?_)
    refine aj_iconst (v := (0 : Int32)) dX12_knownAll_9 (by decide) ?_
    refine r_iald dX12_knownAll_10 (fun v2 => ?_)
    refine aj_icmp_ge (tgt := 29) dX12_knownAll_11 (by decide) (fun h => ?_) (fun h => ?_)
    · refine aj_iload_n (1) dX12_knownAll_29 rfl rfl ?_
      exact aj_iret dX12_knownAll_30 rfl rfl rfl
    refine aj_iload_n (1) dX12_knownAll_14 rfl rfl ?_
    refine aj_aload_n (0) dX12_knownAll_15 rfl rfl ?_
    refine aj_getR (TX := TX12) zc12 (by decide) rfl (Or.inl zg_1391) dX12_knownAll_16 (fun r3 => ?_)
    refine aj_iload_n (2) dX12_knownAll_19 rfl rfl ?_
    refine r_iald dX12_knownAll_20 (fun v4 => ?_)
    refine aj_iadd dX12_knownAll_21 ?_
    refine aj_istore_n (ls2 := [(1, .int ((x1 + v4))), (0, .ref (p0)), (2, .int (x2))]) dX12_knownAll_22 rfl (Nat.le_of_ble_eq_true rfl) rfl ?_
    refine aj_iinc (j := 2) (v := (x2 + (1 : Int32))) (ls2 := [(2, .int ((x2 + (1 : Int32)))), (1, .int ((x1 + v4))), (0, .ref (p0))]) dX12_knownAll_23 rfl rfl (Nat.le_of_ble_eq_true rfl) rfl ?_
    refine aj_goto (tgt := 4) dX12_knownAll_26 (by decide) ?_
    refine AJ.sub [2, 1, 0] rfl ?_
    exact ih (p0) ((x1 + v4)) ((x2 + (1 : Int32))) M
def gX12_knownAll (S : List (Nat × Nat)) (p0 : Nat) (M : zM) : Option Int32 := gX12_knownAll_4 S zfu (p0) ((0 : Int32)) ((0 : Int32)) M
set_option maxHeartbeats 4000000 in
set_option maxRecDepth 100000 in
theorem c_X12_knownAll (w : zWd) (S : List (Nat × Nat)) (p0 : Nat) (M : zM) : CT (zfI S M) w 1 mX12_knownAll [.ref (p0)] (S, M) (gX12_knownAll S p0 M) := by
  refine CT.of (by decide) (Nat.le_of_ble_eq_true rfl) ?_
  show AJ _ _ _ _ 0 [(0, .ref (p0))] [] _ _
  unfold gX12_knownAll
  refine aj_iconst (v := (0 : Int32)) dX12_knownAll_0 (by decide) ?_
  refine aj_istore_n (ls2 := [(1, .int ((0 : Int32))), (0, .ref (p0))]) dX12_knownAll_1 rfl (Nat.le_of_ble_eq_true rfl) rfl ?_
  refine aj_iconst (v := (0 : Int32)) dX12_knownAll_2 (by decide) ?_
  refine aj_istore_n (ls2 := [(2, .int ((0 : Int32))), (1, .int ((0 : Int32))), (0, .ref (p0))]) dX12_knownAll_3 rfl (Nat.le_of_ble_eq_true rfl) rfl ?_
  refine AJ.sub [2, 1, 0] rfl ?_
  exact t_X12_knownAll_4 w S zfu (p0) ((0 : Int32)) ((0 : Int32)) M
def gX12_count (S : List (Nat × Nat)) (p0 : Nat) (x1 : Int32) (M : zM) : Option (Int32 × zM) := zpI S M (p0) 12 66 0 ((0 : Int32)) (fun M1 => (if x1 = (0 : Int32) then zgR S M1 (p0) 12 66 3 (fun r3 => zaI S M1 100 (r3) ((0 : Int32)) (fun v4 => some (v4, M1))) else (if x1 = (1 : Int32) then zgR S M1 (p0) 12 66 3 (fun r6 => zaI S M1 100 (r6) ((1 : Int32)) (fun v7 => some (v7, M1))) else (if x1 = (2 : Int32) then zgR S M1 (p0) 12 66 3 (fun r9 => zaI S M1 100 (r9) ((2 : Int32)) (fun v10 => some (v10, M1))) else (if x1 = (3 : Int32) then zgR S M1 (p0) 12 66 3 (fun r12 => zaI S M1 100 (r12) ((3 : Int32)) (fun v13 => some (v13, M1))) else (if x1 = (4 : Int32) then zgR S M1 (p0) 12 66 3 (fun r15 => zaI S M1 100 (r15) ((6 : Int32)) (fun v16 => some (v16, M1))) else (if x1 = (5 : Int32) then zgR S M1 (p0) 12 66 33 (fun r18 => zaI S M1 100 (r18) ((0 : Int32)) (fun v19 => some (v19, M1))) else (if x1 = (6 : Int32) then zgR S M1 (p0) 12 66 35 (fun r21 => zaI S M1 100 (r21) ((0 : Int32)) (fun v22 => some (v22, M1))) else (if x1 = (7 : Int32) then zrc S (p0) 12 66 ((gX12_doneMany S (p0) ((0 : Int32)) M1).bind (fun v24 => some (v24, M1))) else (if x1 = (8 : Int32) then zgR S M1 (p0) 12 66 37 (fun r26 => zaI S M1 100 (r26) ((0 : Int32)) (fun v27 => some (v27, M1))) else (if x1 = (9 : Int32) then zgR S M1 (p0) 12 66 38 (fun r29 => zaI S M1 100 (r29) ((0 : Int32)) (fun v30 => some (v30, M1))) else (if x1 = (10 : Int32) then zrc S (p0) 12 66 ((gX12_knownAll S (p0) M1).bind (fun v32 => some (v32, M1))) else (if x1 = (11 : Int32) then zgI S M1 (p0) 12 66 58 (fun v34 => some (v34, M1)) else (if x1 = (12 : Int32) then zrc S (p0) 12 66 ((gX12_knownMany S (p0) M1).bind (fun v36 => some (v36, M1))) else (if x1 = (13 : Int32) then zgI S M1 (p0) 12 66 46 (fun v38 => some (v38, M1)) else some ((-1 : Int32), M1))))))))))))))))
set_option maxHeartbeats 4000000 in
set_option maxRecDepth 100000 in
theorem c_X12_count (w : zWd) (S : List (Nat × Nat)) (p0 : Nat) (x1 : Int32) (M : zM) : CT (zfIM S) w 3 mX12_count [.ref (p0), .int (x1)] (S, M) (gX12_count S p0 x1 M) := by
  refine CT.of (by decide) (Nat.le_of_ble_eq_true rfl) ?_
  show AJ _ _ _ _ 0 [(0, .ref (p0)), (1, .int (x1))] [] _ _
  unfold gX12_count
  refine aj_aload_n (0) dX12_count_0 rfl rfl ?_
  refine aj_iconst (v := (0 : Int32)) dX12_count_1 (by decide) ?_
  refine r_putI (TX := TX12) zc12 (by decide) rfl rfl rfl rfl (Or.inl zg_1350) dX12_count_2 (fun M1 => ?_)
  refine aj_iload_n (1) dX12_count_5 rfl rfl ?_
  refine aj_ite (fun h => ?_) (fun h2 => ?_)
  · have h9 : x1 = (0 : Int32) := h
    refine aj_tsw (tgt := 76) (off := 70) dX12_count_6 (by rw [h9]; decide) (by rw [h9]; decide) (by rw [h9]; decide +kernel) (by decide) ?_
    refine aj_aload_n (0) dX12_count_76 rfl rfl ?_
    refine aj_getR (TX := TX12) zc12 (by decide) rfl (Or.inl zg_1353) dX12_count_77 (fun r3 => ?_)
    refine aj_iconst (v := (0 : Int32)) dX12_count_80 (by decide) ?_
    refine r_iald dX12_count_81 (fun v4 => ?_)
    exact aj_iret dX12_count_82 rfl rfl rfl
  refine aj_ite (fun h => ?_) (fun h5 => ?_)
  · have h9 : x1 = (1 : Int32) := h
    refine aj_tsw (tgt := 83) (off := 77) dX12_count_6 (by rw [h9]; decide) (by rw [h9]; decide) (by rw [h9]; decide +kernel) (by decide) ?_
    refine aj_aload_n (0) dX12_count_83 rfl rfl ?_
    refine aj_getR (TX := TX12) zc12 (by decide) rfl (Or.inl zg_1353) dX12_count_84 (fun r6 => ?_)
    refine aj_iconst (v := (1 : Int32)) dX12_count_87 (by decide) ?_
    refine r_iald dX12_count_88 (fun v7 => ?_)
    exact aj_iret dX12_count_89 rfl rfl rfl
  refine aj_ite (fun h => ?_) (fun h8 => ?_)
  · have h9 : x1 = (2 : Int32) := h
    refine aj_tsw (tgt := 90) (off := 84) dX12_count_6 (by rw [h9]; decide) (by rw [h9]; decide) (by rw [h9]; decide +kernel) (by decide) ?_
    refine aj_aload_n (0) dX12_count_90 rfl rfl ?_
    refine aj_getR (TX := TX12) zc12 (by decide) rfl (Or.inl zg_1353) dX12_count_91 (fun r9 => ?_)
    refine aj_iconst (v := (2 : Int32)) dX12_count_94 (by decide) ?_
    refine r_iald dX12_count_95 (fun v10 => ?_)
    exact aj_iret dX12_count_96 rfl rfl rfl
  refine aj_ite (fun h => ?_) (fun h11 => ?_)
  · have h9 : x1 = (3 : Int32) := h
    refine aj_tsw (tgt := 97) (off := 91) dX12_count_6 (by rw [h9]; decide) (by rw [h9]; decide) (by rw [h9]; decide +kernel) (by decide) ?_
    refine aj_aload_n (0) dX12_count_97 rfl rfl ?_
    refine aj_getR (TX := TX12) zc12 (by decide) rfl (Or.inl zg_1353) dX12_count_98 (fun r12 => ?_)
    refine aj_iconst (v := (3 : Int32)) dX12_count_101 (by decide) ?_
    refine r_iald dX12_count_102 (fun v13 => ?_)
    exact aj_iret dX12_count_103 rfl rfl rfl
  refine aj_ite (fun h => ?_) (fun h14 => ?_)
  · have h9 : x1 = (4 : Int32) := h
    refine aj_tsw (tgt := 104) (off := 98) dX12_count_6 (by rw [h9]; decide) (by rw [h9]; decide) (by rw [h9]; decide +kernel) (by decide) ?_
    refine aj_aload_n (0) dX12_count_104 rfl rfl ?_
    refine aj_getR (TX := TX12) zc12 (by decide) rfl (Or.inl zg_1353) dX12_count_105 (fun r15 => ?_)
    refine aj_bipush (v := (6 : Int32)) dX12_count_108 (by decide) ?_
    refine r_iald dX12_count_110 (fun v16 => ?_)
    exact aj_iret dX12_count_111 rfl rfl rfl
  refine aj_ite (fun h => ?_) (fun h17 => ?_)
  · have h9 : x1 = (5 : Int32) := h
    refine aj_tsw (tgt := 112) (off := 106) dX12_count_6 (by rw [h9]; decide) (by rw [h9]; decide) (by rw [h9]; decide +kernel) (by decide) ?_
    refine aj_aload_n (0) dX12_count_112 rfl rfl ?_
    refine aj_getR (TX := TX12) zc12 (by decide) rfl (Or.inl zg_1383) dX12_count_113 (fun r18 => ?_)
    refine aj_iconst (v := (0 : Int32)) dX12_count_116 (by decide) ?_
    refine r_iald dX12_count_117 (fun v19 => ?_)
    exact aj_iret dX12_count_118 rfl rfl rfl
  refine aj_ite (fun h => ?_) (fun h20 => ?_)
  · have h9 : x1 = (6 : Int32) := h
    refine aj_tsw (tgt := 119) (off := 113) dX12_count_6 (by rw [h9]; decide) (by rw [h9]; decide) (by rw [h9]; decide +kernel) (by decide) ?_
    refine aj_aload_n (0) dX12_count_119 rfl rfl ?_
    refine aj_getR (TX := TX12) zc12 (by decide) rfl (Or.inl zg_1385) dX12_count_120 (fun r21 => ?_)
    refine aj_iconst (v := (0 : Int32)) dX12_count_123 (by decide) ?_
    refine r_iald dX12_count_124 (fun v22 => ?_)
    exact aj_iret dX12_count_125 rfl rfl rfl
  refine aj_ite (fun h => ?_) (fun h23 => ?_)
  · have h9 : x1 = (7 : Int32) := h
    refine aj_tsw (tgt := 126) (off := 120) dX12_count_6 (by rw [h9]; decide) (by rw [h9]; decide) (by rw [h9]; decide +kernel) (by decide) ?_
    refine aj_aload_n (0) dX12_count_126 rfl rfl ?_
    refine aj_iconst (v := (0 : Int32)) dX12_count_127 (by decide) ?_
    refine rV_I (as := [.int ((0 : Int32))]) (c_X12_doneMany w S _ _ _) mv_X12_doneMany rfl zg_1735 (by decide) (Nat.le_of_ble_eq_true rfl) dX12_count_128 (fun v24 => ?_)
    exact aj_iret dX12_count_131 rfl rfl rfl
  refine aj_ite (fun h => ?_) (fun h25 => ?_)
  · have h9 : x1 = (8 : Int32) := h
    refine aj_tsw (tgt := 132) (off := 126) dX12_count_6 (by rw [h9]; decide) (by rw [h9]; decide) (by rw [h9]; decide +kernel) (by decide) ?_
    refine aj_aload_n (0) dX12_count_132 rfl rfl ?_
    refine aj_getR (TX := TX12) zc12 (by decide) rfl (Or.inl zg_1387) dX12_count_133 (fun r26 => ?_)
    refine aj_iconst (v := (0 : Int32)) dX12_count_136 (by decide) ?_
    refine r_iald dX12_count_137 (fun v27 => ?_)
    exact aj_iret dX12_count_138 rfl rfl rfl
  refine aj_ite (fun h => ?_) (fun h28 => ?_)
  · have h9 : x1 = (9 : Int32) := h
    refine aj_tsw (tgt := 139) (off := 133) dX12_count_6 (by rw [h9]; decide) (by rw [h9]; decide) (by rw [h9]; decide +kernel) (by decide) ?_
    refine aj_aload_n (0) dX12_count_139 rfl rfl ?_
    refine aj_getR (TX := TX12) zc12 (by decide) rfl (Or.inl zg_1388) dX12_count_140 (fun r29 => ?_)
    refine aj_iconst (v := (0 : Int32)) dX12_count_143 (by decide) ?_
    refine r_iald dX12_count_144 (fun v30 => ?_)
    exact aj_iret dX12_count_145 rfl rfl rfl
  refine aj_ite (fun h => ?_) (fun h31 => ?_)
  · have h9 : x1 = (10 : Int32) := h
    refine aj_tsw (tgt := 146) (off := 140) dX12_count_6 (by rw [h9]; decide) (by rw [h9]; decide) (by rw [h9]; decide +kernel) (by decide) ?_
    refine aj_aload_n (0) dX12_count_146 rfl rfl ?_
    refine rV_I (as := []) (c_X12_knownAll w S _ _) mv_X12_knownAll rfl zg_2019 (by decide) (Nat.le_of_ble_eq_true rfl) dX12_count_147 (fun v32 => ?_)
    exact aj_iret dX12_count_150 rfl rfl rfl
  refine aj_ite (fun h => ?_) (fun h33 => ?_)
  · have h9 : x1 = (11 : Int32) := h
    refine aj_tsw (tgt := 151) (off := 145) dX12_count_6 (by rw [h9]; decide) (by rw [h9]; decide) (by rw [h9]; decide +kernel) (by decide) ?_
    refine aj_aload_n (0) dX12_count_151 rfl rfl ?_
    refine r_getI (TX := TX12) zc12 (by decide) rfl (Or.inl zg_1408) dX12_count_152 (fun v34 => ?_)
    exact aj_iret dX12_count_155 rfl rfl rfl
  refine aj_ite (fun h => ?_) (fun h35 => ?_)
  · have h9 : x1 = (12 : Int32) := h
    refine aj_tsw (tgt := 156) (off := 150) dX12_count_6 (by rw [h9]; decide) (by rw [h9]; decide) (by rw [h9]; decide +kernel) (by decide) ?_
    refine aj_aload_n (0) dX12_count_156 rfl rfl ?_
    refine rV_I (as := []) (c_X12_knownMany w S _ _) mv_X12_knownMany rfl zg_1975 (by decide) (Nat.le_of_ble_eq_true rfl) dX12_count_157 (fun v36 => ?_)
    exact aj_iret dX12_count_160 rfl rfl rfl
  refine aj_ite (fun h => ?_) (fun h37 => ?_)
  · have h9 : x1 = (13 : Int32) := h
    refine aj_tsw (tgt := 161) (off := 155) dX12_count_6 (by rw [h9]; decide) (by rw [h9]; decide) (by rw [h9]; decide +kernel) (by decide) ?_
    refine aj_aload_n (0) dX12_count_161 rfl rfl ?_
    refine r_getI (TX := TX12) zc12 (by decide) rfl (Or.inl zg_1396) dX12_count_162 (fun v38 => ?_)
    exact aj_iret dX12_count_165 rfl rfl rfl
  refine aj_tswO (tgt := 166) dX12_count_6 (by have a0 := lv_neT (k := (0 : Int32)) h2 (a := 0) (by decide); have a1 := lv_neT (k := (1 : Int32)) h5 (a := 1) (by decide); have a2 := lv_neT (k := (2 : Int32)) h8 (a := 2) (by decide); have a3 := lv_neT (k := (3 : Int32)) h11 (a := 3) (by decide); have a4 := lv_neT (k := (4 : Int32)) h14 (a := 4) (by decide); have a5 := lv_neT (k := (5 : Int32)) h17 (a := 5) (by decide); have a6 := lv_neT (k := (6 : Int32)) h20 (a := 6) (by decide); have a7 := lv_neT (k := (7 : Int32)) h23 (a := 7) (by decide); have a8 := lv_neT (k := (8 : Int32)) h25 (a := 8) (by decide); have a9 := lv_neT (k := (9 : Int32)) h28 (a := 9) (by decide); have a10 := lv_neT (k := (10 : Int32)) h31 (a := 10) (by decide); have a11 := lv_neT (k := (11 : Int32)) h33 (a := 11) (by decide); have a12 := lv_neT (k := (12 : Int32)) h35 (a := 12) (by decide); have a13 := lv_neT (k := (13 : Int32)) h37 (a := 13) (by decide); omega) (by decide) ?_
  refine aj_iconst (v := (-1 : Int32)) dX12_count_166 (by decide) ?_
  exact aj_iret dX12_count_167 rfl rfl rfl
