/-! DayOpeners$Laws: functions of its methods and their contracts: written by wip/whole/gen/dec.py -/
def gX1_init (p0 : Nat) (S : List (Nat × Nat)) (M : zM) : Option zH := znew S M 5 1 (fun S1 M2 r3 => zmk2 S1 (gX5_init (r3) ((64 : Int32)) S1 M2) (fun S4 M5 => zpR S4 M5 (p0) 1 7 0 (some (r3)) (fun M6 => znew S4 M6 5 1 (fun S7 M8 r9 => zmk2 S7 (gX5_init (r9) ((64 : Int32)) S7 M8) (fun S10 M11 => zpR S10 M11 (p0) 1 7 1 (some (r9)) (fun M12 => znew S10 M12 5 1 (fun S13 M14 r15 => zmk2 S13 (gX5_init (r15) ((3 : Int32)) S13 M14) (fun S16 M17 => zpR S16 M17 (p0) 1 7 2 (some (r15)) (fun M18 => znew S16 M18 5 1 (fun S19 M20 r21 => zmk2 S19 (gX5_init (r21) ((3 : Int32)) S19 M20) (fun S22 M23 => zpR S22 M23 (p0) 1 7 3 (some (r21)) (fun M24 => znar S22 M24 101 ((7 : Int32)) (fun S25 M26 r27 => zpR S25 M26 (p0) 1 7 4 (some (r27)) (fun M28 => znar S25 M28 101 ((64 : Int32)) (fun S29 M30 r31 => zpR S29 M30 (p0) 1 7 5 (some (r31)) (fun M32 => some (S29, M32)))))))))))))))))
set_option maxHeartbeats 4000000 in
set_option maxRecDepth 100000 in
theorem c_X1_init (w : zWd) (hz : zSZ w) (hg : w.2.2.2.2.2 = 0) (p0 : Nat) (S : List (Nat × Nat)) (M : zM) : CT zfC w 3 mX1_init [.ref (p0)] (S, M) (gX1_init p0 S M) := by
  refine CT.of (by decide) (Nat.le_of_ble_eq_true rfl) ?_
  show AJ _ _ _ _ 0 [(0, .ref (p0))] [] _ _
  unfold gX1_init
  refine aj_aload_n (0) dX1_init_0 rfl rfl ?_
  refine aj_obj zg_153 zg_31 zg_32 (by decide) (Nat.le_of_ble_eq_true rfl) dX1_init_1 ?_
  refine aj_aload_n (0) dX1_init_4 rfl rfl ?_
  refine r_new (TX := TX5) hg zc5 zg_154 zg_34 zg_2 dX1_init_5 (fun S1 M2 r3 => ?_)
  refine aj_dup dX1_init_8 rfl ?_
  refine aj_bipush (v := (64 : Int32)) dX1_init_9 (by decide) ?_
  refine rC (as := [.int ((64 : Int32))]) hg (c_X5_init w hz hg _ _ _ _) mc_X5_init rfl (Or.inl zg_155) (by decide) (Nat.le_of_ble_eq_true rfl) dX1_init_11 (fun S4 M5 => ?_)
  refine r_putR (TX := TX1) zc1 (by decide) rfl (Or.inr ⟨rfl, rfl, rfl, zg_156⟩) (Or.inl zg_156) dX1_init_14 (fun M6 => ?_)
  refine aj_aload_n (0) dX1_init_17 rfl rfl ?_
  refine r_new (TX := TX5) hg zc5 zg_154 zg_34 zg_2 dX1_init_18 (fun S7 M8 r9 => ?_)
  refine aj_dup dX1_init_21 rfl ?_
  refine aj_bipush (v := (64 : Int32)) dX1_init_22 (by decide) ?_
  refine rC (as := [.int ((64 : Int32))]) hg (c_X5_init w hz hg _ _ _ _) mc_X5_init rfl (Or.inl zg_155) (by decide) (Nat.le_of_ble_eq_true rfl) dX1_init_24 (fun S10 M11 => ?_)
  refine r_putR (TX := TX1) zc1 (by decide) rfl (Or.inr ⟨rfl, rfl, rfl, zg_157⟩) (Or.inl zg_157) dX1_init_27 (fun M12 => ?_)
  refine aj_aload_n (0) dX1_init_30 rfl rfl ?_
  refine r_new (TX := TX5) hg zc5 zg_154 zg_34 zg_2 dX1_init_31 (fun S13 M14 r15 => ?_)
  refine aj_dup dX1_init_34 rfl ?_
  refine aj_iconst (v := (3 : Int32)) dX1_init_35 (by decide) ?_
  refine rC (as := [.int ((3 : Int32))]) hg (c_X5_init w hz hg _ _ _ _) mc_X5_init rfl (Or.inl zg_155) (by decide) (Nat.le_of_ble_eq_true rfl) dX1_init_36 (fun S16 M17 => ?_)
  refine r_putR (TX := TX1) zc1 (by decide) rfl (Or.inr ⟨rfl, rfl, rfl, zg_158⟩) (Or.inl zg_158) dX1_init_39 (fun M18 => ?_)
  refine aj_aload_n (0) dX1_init_42 rfl rfl ?_
  refine r_new (TX := TX5) hg zc5 zg_154 zg_34 zg_2 dX1_init_43 (fun S19 M20 r21 => ?_)
  refine aj_dup dX1_init_46 rfl ?_
  refine aj_iconst (v := (3 : Int32)) dX1_init_47 (by decide) ?_
  refine rC (as := [.int ((3 : Int32))]) hg (c_X5_init w hz hg _ _ _ _) mc_X5_init rfl (Or.inl zg_155) (by decide) (Nat.le_of_ble_eq_true rfl) dX1_init_48 (fun S22 M23 => ?_)
  refine r_putR (TX := TX1) zc1 (by decide) rfl (Or.inr ⟨rfl, rfl, rfl, zg_159⟩) (Or.inl zg_159) dX1_init_51 (fun M24 => ?_)
  refine aj_aload_n (0) dX1_init_54 rfl rfl ?_
  refine aj_bipush (v := (7 : Int32)) dX1_init_55 (by decide) ?_
  refine r_newL hg zg_179 dX1_init_57 (fun S25 M26 r27 => ?_)
  refine r_putR (TX := TX1) zc1 (by decide) rfl (Or.inr ⟨rfl, rfl, rfl, zg_160⟩) (Or.inl zg_160) dX1_init_59 (fun M28 => ?_)
  refine aj_aload_n (0) dX1_init_62 rfl rfl ?_
  refine aj_bipush (v := (64 : Int32)) dX1_init_63 (by decide) ?_
  refine r_newL hg zg_179 dX1_init_65 (fun S29 M30 r31 => ?_)
  refine r_putR (TX := TX1) zc1 (by decide) rfl (Or.inr ⟨rfl, rfl, rfl, zg_161⟩) (Or.inl zg_161) dX1_init_67 (fun M32 => ?_)
  exact aj_vret dX1_init_70 rfl rfl
def gX1_has (S : List (Nat × Nat)) (p0 : Nat) (x1 : Int32) (M : zM) : Option Int32 := zgR S M (p0) 1 7 3 (fun r1 => zrc S (r1) 5 1 ((gX5_get S (r1) (x1) M).bind (fun v2 => zgR S M (p0) 1 7 2 (fun r3 => zrc S (r3) 5 1 ((gX5_get S (r3) (x1) M).bind (fun v4 => (if v2 ≤ v4 then some ((0 : Int32)) else some ((1 : Int32)))))))))
set_option maxHeartbeats 4000000 in
set_option maxRecDepth 100000 in
theorem c_X1_has (w : zWd) (S : List (Nat × Nat)) (p0 : Nat) (x1 : Int32) (M : zM) : CT (zfI S M) w 2 mX1_has [.ref (p0), .int (x1)] (S, M) (gX1_has S p0 x1 M) := by
  refine CT.of (by decide) (Nat.le_of_ble_eq_true rfl) ?_
  show AJ _ _ _ _ 0 [(0, .ref (p0)), (1, .int (x1))] [] _ _
  unfold gX1_has
  refine aj_aload_n (0) dX1_has_0 rfl rfl ?_
  refine aj_getR (TX := TX1) zc1 (by decide) rfl (Or.inl zg_159) dX1_has_1 (fun r1 => ?_)
  refine aj_iload_n (1) dX1_has_4 rfl rfl ?_
  refine rV_I (as := [.int (x1)]) (c_X5_get w S _ _ _) mv_X5_get rfl zg_748 (by decide) (Nat.le_of_ble_eq_true rfl) dX1_has_5 (fun v2 => ?_)
  refine aj_aload_n (0) dX1_has_8 rfl rfl ?_
  refine aj_getR (TX := TX1) zc1 (by decide) rfl (Or.inl zg_158) dX1_has_9 (fun r3 => ?_)
  refine aj_iload_n (1) dX1_has_12 rfl rfl ?_
  refine rV_I (as := [.int (x1)]) (c_X5_get w S _ _ _) mv_X5_get rfl zg_748 (by decide) (Nat.le_of_ble_eq_true rfl) dX1_has_13 (fun v4 => ?_)
  refine aj_icmp_le (tgt := 23) dX1_has_16 (by decide) (fun h => ?_) (fun h => ?_)
  · refine aj_iconst (v := (0 : Int32)) dX1_has_23 (by decide) ?_
    exact aj_iret dX1_has_24 rfl (by decide +kernel) rfl
  refine aj_iconst (v := (1 : Int32)) dX1_has_19 (by decide) ?_
  refine aj_goto (tgt := 24) dX1_has_20 (by decide) ?_
  exact aj_iret dX1_has_24 rfl (by decide +kernel) rfl
def gX1_setName (S : List (Nat × Nat)) (p0 : Nat) (x1 : Int32) (l2 : Int64) (M : zM) : Option zM := (if x1 < 0 then some M else zgR S M (p0) 1 7 4 (fun r1 => zal S 101 (r1) (fun v2 => (if v2 ≤ x1 then some M else zgR S M (p0) 1 7 4 (fun r3 => zbL S M (r3) (x1) (l2) (fun M4 => some M4))))))
set_option maxHeartbeats 4000000 in
set_option maxRecDepth 100000 in
theorem c_X1_setName (w : zWd) (S : List (Nat × Nat)) (p0 : Nat) (x1 : Int32) (l2 : Int64) (M : zM) : CT (zfVM S) w 1 mX1_setName [.ref (p0), .int (x1), .long (l2)] (S, M) (gX1_setName S p0 x1 l2 M) := by
  refine CT.of (by decide) (Nat.le_of_ble_eq_true rfl) ?_
  show AJ _ _ _ _ 0 [(0, .ref (p0)), (1, .int (x1)), (2, .long (l2))] [] _ _
  unfold gX1_setName
  refine aj_iload_n (1) dX1_setName_0 rfl rfl ?_
  refine aj_if_lt (tgt := 20) dX1_setName_1 (by decide) (fun h => ?_) (fun h => ?_)
  · exact aj_vret dX1_setName_20 rfl rfl
  refine aj_iload_n (1) dX1_setName_4 rfl rfl ?_
  refine aj_aload_n (0) dX1_setName_5 rfl rfl ?_
  refine aj_getR (TX := TX1) zc1 (by decide) rfl (Or.inl zg_160) dX1_setName_6 (fun r1 => ?_)
  refine r_alen (t := 101) (by decide) dX1_setName_9 (fun v2 => ?_)
  refine aj_icmp_ge (tgt := 20) dX1_setName_10 (by decide) (fun h => ?_) (fun h => ?_)
  · exact aj_vret dX1_setName_20 rfl rfl
  refine aj_aload_n (0) dX1_setName_13 rfl rfl ?_
  refine aj_getR (TX := TX1) zc1 (by decide) rfl (Or.inl zg_160) dX1_setName_14 (fun r3 => ?_)
  refine aj_iload_n (1) dX1_setName_17 rfl rfl ?_
  refine aj_lload_n (2) dX1_setName_18 rfl rfl ?_
  refine r_last dX1_setName_19 (fun M4 => ?_)
  exact aj_vret dX1_setName_20 rfl rfl
def gX1_joined (S : List (Nat × Nat)) (x0 : Int32) (l1 : Int64) (l3 : Int64) (M : zM) : Option Int64 := (if x0 = (3 : Int32) then (if (lg_cmp l1 (0 : Int64)) = 0 then (if (lg_cmp l3 (0 : Int64)) = 0 then some ((0 : Int64)) else some ((1 : Int64))) else some ((1 : Int64))) else (if x0 = (4 : Int32) then (if (lg_cmp l1 (0 : Int64)) = 0 then some ((0 : Int64)) else (if (lg_cmp l3 (0 : Int64)) = 0 then some ((0 : Int64)) else some ((1 : Int64)))) else (if x0 = (5 : Int32) then (if (lg_cmp l3 (0 : Int64)) = 0 then some ((1 : Int64)) else some ((0 : Int64))) else (if x0 = (6 : Int32) then (if 0 ≤ (lg_cmp l1 l3) then some ((0 : Int64)) else some ((1 : Int64))) else (if x0 = (7 : Int32) then (if 0 < (lg_cmp l1 l3) then some ((0 : Int64)) else some ((1 : Int64))) else (if x0 = (8 : Int32) then (if (lg_cmp l1 l3) = 0 then some ((1 : Int64)) else some ((0 : Int64))) else (if x0 = (9 : Int32) then (if (lg_cmp l1 l3) = 0 then some ((0 : Int64)) else some ((1 : Int64))) else (if x0 = (10 : Int32) then (if (lg_cmp l1 l3) < 0 then some ((0 : Int64)) else some ((1 : Int64))) else (if x0 = (11 : Int32) then (if (lg_cmp l1 l3) ≤ 0 then some ((0 : Int64)) else some ((1 : Int64))) else (if x0 = (12 : Int32) then some ((l1 + l3)) else (if x0 = (13 : Int32) then some ((l1 - l3)) else (if x0 = (14 : Int32) then (if (lg_cmp l1 (0 : Int64)) = 0 then (if (1 : Int32) = 0 then some ((-9223372036854775808 : Int64)) else some ((l1 * l3))) else (if (if 0 < l1 then l1 else -l1) = 0 then none else (if 0 < (lg_cmp (if 0 < l3 then l3 else -l3) ((1000000000000 : Int64) / (if 0 < l1 then l1 else -l1))) then (if (0 : Int32) = 0 then some ((-9223372036854775808 : Int64)) else some ((l1 * l3))) else (if (1 : Int32) = 0 then some ((-9223372036854775808 : Int64)) else some ((l1 * l3)))))) else (if x0 = (15 : Int32) then (if (lg_cmp l3 (0 : Int64)) = 0 then some ((-9223372036854775808 : Int64)) else (if l3 = 0 then none else some ((l1 / l3)))) else some ((-9223372036854775808 : Int64)))))))))))))))
set_option maxHeartbeats 4000000 in
set_option maxRecDepth 100000 in
theorem c_X1_joined (w : zWd) (S : List (Nat × Nat)) (x0 : Int32) (l1 : Int64) (l3 : Int64) (M : zM) : CT (zfJ S M) w 2 mX1_joined [.int (x0), .long (l1), .long (l3)] (S, M) (gX1_joined S x0 l1 l3 M) := by
  refine CT.of (by decide) (Nat.le_of_ble_eq_true rfl) ?_
  show AJ _ _ _ _ 0 [(0, .int (x0)), (1, .long (l1)), (3, .long (l3))] [] _ _
  unfold gX1_joined
  refine aj_iload_n (0) dX1_joined_0 rfl rfl ?_
  refine aj_ite (fun h => ?_) (fun h1 => ?_)
  · have h9 : x0 = (3 : Int32) := h
    refine aj_tsw (tgt := 80) (off := 79) dX1_joined_1 (by rw [h9]; decide) (by rw [h9]; decide) (by rw [h9]; decide +kernel) (by decide) ?_
    refine aj_lload_n (1) dX1_joined_80 rfl rfl ?_
    refine aj_lconst (v := (0 : Int64)) dX1_joined_81 (by decide) ?_
    refine aj_lcmp dX1_joined_82 ?_
    refine aj_if_ne (tgt := 92) dX1_joined_83 (by decide) (fun h => ?_) (fun h => ?_)
    · refine aj_lconst (v := (1 : Int64)) dX1_joined_92 (by decide) ?_
      refine aj_goto (tgt := 97) dX1_joined_93 (by decide) ?_
      exact aj_lret dX1_joined_97 rfl rfl
    refine aj_lload_n (2) dX1_joined_86 rfl rfl ?_
    refine aj_lconst (v := (0 : Int64)) dX1_joined_87 (by decide) ?_
    refine aj_lcmp dX1_joined_88 ?_
    refine aj_if_eq (tgt := 96) dX1_joined_89 (by decide) (fun h => ?_) (fun h => ?_)
    · refine aj_lconst (v := (0 : Int64)) dX1_joined_96 (by decide) ?_
      exact aj_lret dX1_joined_97 rfl rfl
    refine aj_lconst (v := (1 : Int64)) dX1_joined_92 (by decide) ?_
    refine aj_goto (tgt := 97) dX1_joined_93 (by decide) ?_
    exact aj_lret dX1_joined_97 rfl rfl
  refine aj_ite (fun h => ?_) (fun h2 => ?_)
  · have h9 : x0 = (4 : Int32) := h
    refine aj_tsw (tgt := 98) (off := 97) dX1_joined_1 (by rw [h9]; decide) (by rw [h9]; decide) (by rw [h9]; decide +kernel) (by decide) ?_
    refine aj_lload_n (1) dX1_joined_98 rfl rfl ?_
    refine aj_lconst (v := (0 : Int64)) dX1_joined_99 (by decide) ?_
    refine aj_lcmp dX1_joined_100 ?_
    refine aj_if_eq (tgt := 114) dX1_joined_101 (by decide) (fun h => ?_) (fun h => ?_)
    · refine aj_lconst (v := (0 : Int64)) dX1_joined_114 (by decide) ?_
      exact aj_lret dX1_joined_115 rfl rfl
    refine aj_lload_n (2) dX1_joined_104 rfl rfl ?_
    refine aj_lconst (v := (0 : Int64)) dX1_joined_105 (by decide) ?_
    refine aj_lcmp dX1_joined_106 ?_
    refine aj_if_eq (tgt := 114) dX1_joined_107 (by decide) (fun h => ?_) (fun h => ?_)
    · refine aj_lconst (v := (0 : Int64)) dX1_joined_114 (by decide) ?_
      exact aj_lret dX1_joined_115 rfl rfl
    refine aj_lconst (v := (1 : Int64)) dX1_joined_110 (by decide) ?_
    refine aj_goto (tgt := 115) dX1_joined_111 (by decide) ?_
    exact aj_lret dX1_joined_115 rfl rfl
  refine aj_ite (fun h => ?_) (fun h3 => ?_)
  · have h9 : x0 = (5 : Int32) := h
    refine aj_tsw (tgt := 68) (off := 67) dX1_joined_1 (by rw [h9]; decide) (by rw [h9]; decide) (by rw [h9]; decide +kernel) (by decide) ?_
    refine aj_lload_n (2) dX1_joined_68 rfl rfl ?_
    refine aj_lconst (v := (0 : Int64)) dX1_joined_69 (by decide) ?_
    refine aj_lcmp dX1_joined_70 ?_
    refine aj_if_ne (tgt := 78) dX1_joined_71 (by decide) (fun h => ?_) (fun h => ?_)
    · refine aj_lconst (v := (0 : Int64)) dX1_joined_78 (by decide) ?_
      exact aj_lret dX1_joined_79 rfl rfl
    refine aj_lconst (v := (1 : Int64)) dX1_joined_74 (by decide) ?_
    refine aj_goto (tgt := 79) dX1_joined_75 (by decide) ?_
    exact aj_lret dX1_joined_79 rfl rfl
  refine aj_ite (fun h => ?_) (fun h4 => ?_)
  · have h9 : x0 = (6 : Int32) := h
    refine aj_tsw (tgt := 116) (off := 115) dX1_joined_1 (by rw [h9]; decide) (by rw [h9]; decide) (by rw [h9]; decide +kernel) (by decide) ?_
    refine aj_lload_n (1) dX1_joined_116 rfl rfl ?_
    refine aj_lload_n (2) dX1_joined_117 rfl rfl ?_
    refine aj_lcmp dX1_joined_118 ?_
    refine aj_if_ge (tgt := 126) dX1_joined_119 (by decide) (fun h => ?_) (fun h => ?_)
    · refine aj_lconst (v := (0 : Int64)) dX1_joined_126 (by decide) ?_
      exact aj_lret dX1_joined_127 rfl rfl
    refine aj_lconst (v := (1 : Int64)) dX1_joined_122 (by decide) ?_
    refine aj_goto (tgt := 127) dX1_joined_123 (by decide) ?_
    exact aj_lret dX1_joined_127 rfl rfl
  refine aj_ite (fun h => ?_) (fun h5 => ?_)
  · have h9 : x0 = (7 : Int32) := h
    refine aj_tsw (tgt := 128) (off := 127) dX1_joined_1 (by rw [h9]; decide) (by rw [h9]; decide) (by rw [h9]; decide +kernel) (by decide) ?_
    refine aj_lload_n (1) dX1_joined_128 rfl rfl ?_
    refine aj_lload_n (2) dX1_joined_129 rfl rfl ?_
    refine aj_lcmp dX1_joined_130 ?_
    refine aj_if_gt (tgt := 138) dX1_joined_131 (by decide) (fun h => ?_) (fun h => ?_)
    · refine aj_lconst (v := (0 : Int64)) dX1_joined_138 (by decide) ?_
      exact aj_lret dX1_joined_139 rfl rfl
    refine aj_lconst (v := (1 : Int64)) dX1_joined_134 (by decide) ?_
    refine aj_goto (tgt := 139) dX1_joined_135 (by decide) ?_
    exact aj_lret dX1_joined_139 rfl rfl
  refine aj_ite (fun h => ?_) (fun h6 => ?_)
  · have h9 : x0 = (8 : Int32) := h
    refine aj_tsw (tgt := 140) (off := 139) dX1_joined_1 (by rw [h9]; decide) (by rw [h9]; decide) (by rw [h9]; decide +kernel) (by decide) ?_
    refine aj_lload_n (1) dX1_joined_140 rfl rfl ?_
    refine aj_lload_n (2) dX1_joined_141 rfl rfl ?_
    refine aj_lcmp dX1_joined_142 ?_
    refine aj_if_ne (tgt := 150) dX1_joined_143 (by decide) (fun h => ?_) (fun h => ?_)
    · refine aj_lconst (v := (0 : Int64)) dX1_joined_150 (by decide) ?_
      exact aj_lret dX1_joined_151 rfl rfl
    refine aj_lconst (v := (1 : Int64)) dX1_joined_146 (by decide) ?_
    refine aj_goto (tgt := 151) dX1_joined_147 (by decide) ?_
    exact aj_lret dX1_joined_151 rfl rfl
  refine aj_ite (fun h => ?_) (fun h7 => ?_)
  · have h9 : x0 = (9 : Int32) := h
    refine aj_tsw (tgt := 152) (off := 151) dX1_joined_1 (by rw [h9]; decide) (by rw [h9]; decide) (by rw [h9]; decide +kernel) (by decide) ?_
    refine aj_lload_n (1) dX1_joined_152 rfl rfl ?_
    refine aj_lload_n (2) dX1_joined_153 rfl rfl ?_
    refine aj_lcmp dX1_joined_154 ?_
    refine aj_if_eq (tgt := 162) dX1_joined_155 (by decide) (fun h => ?_) (fun h => ?_)
    · refine aj_lconst (v := (0 : Int64)) dX1_joined_162 (by decide) ?_
      exact aj_lret dX1_joined_163 rfl rfl
    refine aj_lconst (v := (1 : Int64)) dX1_joined_158 (by decide) ?_
    refine aj_goto (tgt := 163) dX1_joined_159 (by decide) ?_
    exact aj_lret dX1_joined_163 rfl rfl
  refine aj_ite (fun h => ?_) (fun h8 => ?_)
  · have h9 : x0 = (10 : Int32) := h
    refine aj_tsw (tgt := 164) (off := 163) dX1_joined_1 (by rw [h9]; decide) (by rw [h9]; decide) (by rw [h9]; decide +kernel) (by decide) ?_
    refine aj_lload_n (1) dX1_joined_164 rfl rfl ?_
    refine aj_lload_n (2) dX1_joined_165 rfl rfl ?_
    refine aj_lcmp dX1_joined_166 ?_
    refine aj_if_lt (tgt := 174) dX1_joined_167 (by decide) (fun h => ?_) (fun h => ?_)
    · refine aj_lconst (v := (0 : Int64)) dX1_joined_174 (by decide) ?_
      exact aj_lret dX1_joined_175 rfl rfl
    refine aj_lconst (v := (1 : Int64)) dX1_joined_170 (by decide) ?_
    refine aj_goto (tgt := 175) dX1_joined_171 (by decide) ?_
    exact aj_lret dX1_joined_175 rfl rfl
  refine aj_ite (fun h => ?_) (fun h9 => ?_)
  · have h9 : x0 = (11 : Int32) := h
    refine aj_tsw (tgt := 176) (off := 175) dX1_joined_1 (by rw [h9]; decide) (by rw [h9]; decide) (by rw [h9]; decide +kernel) (by decide) ?_
    refine aj_lload_n (1) dX1_joined_176 rfl rfl ?_
    refine aj_lload_n (2) dX1_joined_177 rfl rfl ?_
    refine aj_lcmp dX1_joined_178 ?_
    refine aj_if_le (tgt := 186) dX1_joined_179 (by decide) (fun h => ?_) (fun h => ?_)
    · refine aj_lconst (v := (0 : Int64)) dX1_joined_186 (by decide) ?_
      exact aj_lret dX1_joined_187 rfl rfl
    refine aj_lconst (v := (1 : Int64)) dX1_joined_182 (by decide) ?_
    refine aj_goto (tgt := 187) dX1_joined_183 (by decide) ?_
    exact aj_lret dX1_joined_187 rfl rfl
  refine aj_ite (fun h => ?_) (fun h10 => ?_)
  · have h9 : x0 = (12 : Int32) := h
    refine aj_tsw (tgt := 188) (off := 187) dX1_joined_1 (by rw [h9]; decide) (by rw [h9]; decide) (by rw [h9]; decide +kernel) (by decide) ?_
    refine aj_lload_n (1) dX1_joined_188 rfl rfl ?_
    refine aj_lload_n (2) dX1_joined_189 rfl rfl ?_
    refine aj_ladd dX1_joined_190 ?_
    exact aj_lret dX1_joined_191 rfl rfl
  refine aj_ite (fun h => ?_) (fun h11 => ?_)
  · have h9 : x0 = (13 : Int32) := h
    refine aj_tsw (tgt := 192) (off := 191) dX1_joined_1 (by rw [h9]; decide) (by rw [h9]; decide) (by rw [h9]; decide +kernel) (by decide) ?_
    refine aj_lload_n (1) dX1_joined_192 rfl rfl ?_
    refine aj_lload_n (2) dX1_joined_193 rfl rfl ?_
    refine aj_lsub dX1_joined_194 ?_
    exact aj_lret dX1_joined_195 rfl rfl
  refine aj_ite (fun h => ?_) (fun h12 => ?_)
  · have h9 : x0 = (14 : Int32) := h
    refine aj_tsw (tgt := 196) (off := 195) dX1_joined_1 (by rw [h9]; decide) (by rw [h9]; decide) (by rw [h9]; decide +kernel) (by decide) ?_
    refine aj_lload_n (1) dX1_joined_196 rfl rfl ?_
    refine aj_lconst (v := (0 : Int64)) dX1_joined_197 (by decide) ?_
    refine aj_lcmp dX1_joined_198 ?_
    refine aj_if_eq (tgt := 218) dX1_joined_199 (by decide) (fun h => ?_) (fun h => ?_)
    · refine aj_iconst (v := (1 : Int32)) dX1_joined_218 (by decide) ?_
      refine aj_goto (tgt := 223) dX1_joined_219 (by decide) ?_
      refine aj_istore (ls2 := [(5, .int ((1 : Int32))), (0, .int (x0)), (1, .long (l1)), (3, .long (l3))]) dX1_joined_223 (Nat.le_of_ble_eq_true rfl) rfl ?_
      refine aj_iload (0) dX1_joined_225 rfl ?_
      refine aj_if_eq (tgt := 236) dX1_joined_227 (by decide) (fun h => ?_) (fun h => ?_)
      · refine aj_ldc2 (v := (-9223372036854775808 : Int64)) dX1_joined_236 zg_871 ?_
        exact aj_lret dX1_joined_239 rfl rfl
      refine aj_lload_n (2) dX1_joined_230 rfl rfl ?_
      refine aj_lload_n (3) dX1_joined_231 rfl rfl ?_
      refine aj_lmul dX1_joined_232 ?_
      refine aj_goto (tgt := 239) dX1_joined_233 (by decide) ?_
      exact aj_lret dX1_joined_239 rfl rfl
    refine aj_lload_n (2) dX1_joined_202 rfl rfl ?_
    refine aj_mabs_long zg_879 zg_880 zg_3 zg_881 (by decide) (Nat.le_of_ble_eq_true rfl) dX1_joined_203 ?_
    refine aj_ldc2 (v := (1000000000000 : Int64)) dX1_joined_206 zg_882 ?_
    refine aj_lload_n (1) dX1_joined_209 rfl rfl ?_
    refine aj_mabs_long zg_879 zg_880 zg_3 zg_881 (by decide) (Nat.le_of_ble_eq_true rfl) dX1_joined_210 ?_
    refine aj_ldiv dX1_joined_213 ?_
    refine aj_lcmp dX1_joined_214 ?_
    refine aj_if_gt (tgt := 222) dX1_joined_215 (by decide) (fun h => ?_) (fun h => ?_)
    · refine aj_iconst (v := (0 : Int32)) dX1_joined_222 (by decide) ?_
      refine aj_istore (ls2 := [(5, .int ((0 : Int32))), (0, .int (x0)), (1, .long (l1)), (3, .long (l3))]) dX1_joined_223 (Nat.le_of_ble_eq_true rfl) rfl ?_
      refine aj_iload (0) dX1_joined_225 rfl ?_
      refine aj_if_eq (tgt := 236) dX1_joined_227 (by decide) (fun h => ?_) (fun h => ?_)
      · refine aj_ldc2 (v := (-9223372036854775808 : Int64)) dX1_joined_236 zg_871 ?_
        exact aj_lret dX1_joined_239 rfl rfl
      refine aj_lload_n (2) dX1_joined_230 rfl rfl ?_
      refine aj_lload_n (3) dX1_joined_231 rfl rfl ?_
      refine aj_lmul dX1_joined_232 ?_
      refine aj_goto (tgt := 239) dX1_joined_233 (by decide) ?_
      exact aj_lret dX1_joined_239 rfl rfl
    refine aj_iconst (v := (1 : Int32)) dX1_joined_218 (by decide) ?_
    refine aj_goto (tgt := 223) dX1_joined_219 (by decide) ?_
    refine aj_istore (ls2 := [(5, .int ((1 : Int32))), (0, .int (x0)), (1, .long (l1)), (3, .long (l3))]) dX1_joined_223 (Nat.le_of_ble_eq_true rfl) rfl ?_
    refine aj_iload (0) dX1_joined_225 rfl ?_
    refine aj_if_eq (tgt := 236) dX1_joined_227 (by decide) (fun h => ?_) (fun h => ?_)
    · refine aj_ldc2 (v := (-9223372036854775808 : Int64)) dX1_joined_236 zg_871 ?_
      exact aj_lret dX1_joined_239 rfl rfl
    refine aj_lload_n (2) dX1_joined_230 rfl rfl ?_
    refine aj_lload_n (3) dX1_joined_231 rfl rfl ?_
    refine aj_lmul dX1_joined_232 ?_
    refine aj_goto (tgt := 239) dX1_joined_233 (by decide) ?_
    exact aj_lret dX1_joined_239 rfl rfl
  refine aj_ite (fun h => ?_) (fun h13 => ?_)
  · have h9 : x0 = (15 : Int32) := h
    refine aj_tsw (tgt := 240) (off := 239) dX1_joined_1 (by rw [h9]; decide) (by rw [h9]; decide) (by rw [h9]; decide +kernel) (by decide) ?_
    refine aj_lload_n (2) dX1_joined_240 rfl rfl ?_
    refine aj_lconst (v := (0 : Int64)) dX1_joined_241 (by decide) ?_
    refine aj_lcmp dX1_joined_242 ?_
    refine aj_if_ne (tgt := 252) dX1_joined_243 (by decide) (fun h => ?_) (fun h => ?_)
    · refine aj_lload_n (1) dX1_joined_252 rfl rfl ?_
      refine aj_lload_n (2) dX1_joined_253 rfl rfl ?_
      refine aj_ldiv dX1_joined_254 ?_
      exact aj_lret dX1_joined_255 rfl rfl
    refine aj_ldc2 (v := (-9223372036854775808 : Int64)) dX1_joined_246 zg_871 ?_
    refine aj_goto (tgt := 255) dX1_joined_249 (by decide) ?_
    exact aj_lret dX1_joined_255 rfl rfl
  refine aj_tswO (tgt := 256) dX1_joined_1 (by have a0 := lv_neT (k := (3 : Int32)) h1 (a := 3) (by decide); have a1 := lv_neT (k := (4 : Int32)) h2 (a := 4) (by decide); have a2 := lv_neT (k := (5 : Int32)) h3 (a := 5) (by decide); have a3 := lv_neT (k := (6 : Int32)) h4 (a := 6) (by decide); have a4 := lv_neT (k := (7 : Int32)) h5 (a := 7) (by decide); have a5 := lv_neT (k := (8 : Int32)) h6 (a := 8) (by decide); have a6 := lv_neT (k := (9 : Int32)) h7 (a := 9) (by decide); have a7 := lv_neT (k := (10 : Int32)) h8 (a := 10) (by decide); have a8 := lv_neT (k := (11 : Int32)) h9 (a := 11) (by decide); have a9 := lv_neT (k := (12 : Int32)) h10 (a := 12) (by decide); have a10 := lv_neT (k := (13 : Int32)) h11 (a := 13) (by decide); have a11 := lv_neT (k := (14 : Int32)) h12 (a := 14) (by decide); have a12 := lv_neT (k := (15 : Int32)) h13 (a := 15) (by decide); omega) (by decide) ?_
  refine aj_ldc2 (v := (-9223372036854775808 : Int64)) dX1_joined_256 zg_871 ?_
  exact aj_lret dX1_joined_259 rfl rfl
def gX1_nameWorth (S : List (Nat × Nat)) (p0 : Nat) (x1 : Int32) (M : zM) : Option Int64 := (if x1 < 0 then some ((0 : Int64)) else zgR S M (p0) 1 7 4 (fun r1 => zal S 101 (r1) (fun v2 => (if v2 ≤ x1 then some ((0 : Int64)) else zgR S M (p0) 1 7 4 (fun r3 => zaL S M (r3) (x1) (fun w4 => some (w4)))))))
set_option maxHeartbeats 4000000 in
set_option maxRecDepth 100000 in
theorem c_X1_nameWorth (w : zWd) (S : List (Nat × Nat)) (p0 : Nat) (x1 : Int32) (M : zM) : CT (zfJ S M) w 1 mX1_nameWorth [.ref (p0), .int (x1)] (S, M) (gX1_nameWorth S p0 x1 M) := by
  refine CT.of (by decide) (Nat.le_of_ble_eq_true rfl) ?_
  show AJ _ _ _ _ 0 [(0, .ref (p0)), (1, .int (x1))] [] _ _
  unfold gX1_nameWorth
  refine aj_iload_n (1) dX1_nameWorth_0 rfl rfl ?_
  refine aj_if_lt (tgt := 22) dX1_nameWorth_1 (by decide) (fun h => ?_) (fun h => ?_)
  · refine aj_lconst (v := (0 : Int64)) dX1_nameWorth_22 (by decide) ?_
    exact aj_lret dX1_nameWorth_23 rfl rfl
  refine aj_iload_n (1) dX1_nameWorth_4 rfl rfl ?_
  refine aj_aload_n (0) dX1_nameWorth_5 rfl rfl ?_
  refine aj_getR (TX := TX1) zc1 (by decide) rfl (Or.inl zg_160) dX1_nameWorth_6 (fun r1 => ?_)
  refine r_alen (t := 101) (by decide) dX1_nameWorth_9 (fun v2 => ?_)
  refine aj_icmp_ge (tgt := 22) dX1_nameWorth_10 (by decide) (fun h => ?_) (fun h => ?_)
  · refine aj_lconst (v := (0 : Int64)) dX1_nameWorth_22 (by decide) ?_
    exact aj_lret dX1_nameWorth_23 rfl rfl
  refine aj_aload_n (0) dX1_nameWorth_13 rfl rfl ?_
  refine aj_getR (TX := TX1) zc1 (by decide) rfl (Or.inl zg_160) dX1_nameWorth_14 (fun r3 => ?_)
  refine aj_iload_n (1) dX1_nameWorth_17 rfl rfl ?_
  refine r_lald dX1_nameWorth_18 (fun w4 => ?_)
  refine aj_goto (tgt := 23) dX1_nameWorth_19 (by decide) ?_
  exact aj_lret dX1_nameWorth_23 rfl rfl
def gX1_worth_49 (S : List (Nat × Nat)) (k21 : Nat → Int32 → Int32 → Int32 → zM → Option (Int64 × zM)) (p0 : Nat) (x2 : Int32) (x3 : Int32) (x4 : Int32) (x5 : Int32) (M : zM) : Option (Int64 × zM) := zgR S M (p0) 1 7 5 (fun r1 => zal S 101 (r1) (fun v2 => (if x3 < v2 then zgR S M (p0) 1 7 5 (fun r3 => (if x5 = 0 then zgR S M (p0) 1 7 1 (fun r8 => zrc S (r8) 5 1 ((gX5_get S (r8) (x4) M).bind (fun v9 => zbL S M (r3) (x3) ((v9).toInt64) (fun M10 => k21 (p0) (x2) ((x3 + (1 : Int32))) ((x4 + (1 : Int32))) M10)))) else zgR S M (p0) 1 7 1 (fun r4 => zrc S (r4) 5 1 ((gX5_get S (r4) (x4) M).bind (fun v5 => zrc S (p0) 1 7 ((gX1_nameWorth S (p0) (v5) M).bind (fun w6 => zbL S M (r3) (x3) (w6) (fun M7 => k21 (p0) (x2) ((x3 + (1 : Int32))) ((x4 + (1 : Int32))) M7)))))))) else some ((-9223372036854775808 : Int64), M))))
set_option maxHeartbeats 4000000 in
set_option maxRecDepth 100000 in
theorem t_X1_worth_49 (w : zWd) (S : List (Nat × Nat)) (k21 : Nat → Int32 → Int32 → Int32 → zM → Option (Int64 × zM)) (hk21 : ∀ (p0 : Nat) (x2 : Int32) (x3 : Int32) (x4 : Int32) (M : zM), AJ (zfJM S) w 3 mX1_worth 21 [(0, .ref (p0)), (2, .int (x2)), (3, .int (x3)), (4, .int (x4))] [] (S, M) (k21 p0 x2 x3 x4 M)) (p0 : Nat) (x2 : Int32) (x3 : Int32) (x4 : Int32) (x5 : Int32) (M : zM) : AJ (zfJM S) w 3 mX1_worth 49 [(0, .ref (p0)), (2, .int (x2)), (3, .int (x3)), (4, .int (x4)), (5, .int (x5))] [] (S, M) (gX1_worth_49 S k21 p0 x2 x3 x4 x5 M) := by
  unfold gX1_worth_49
  refine aj_iload_n (2) dX1_worth_49 rfl rfl ?_
  refine aj_aload_n (0) dX1_worth_50 rfl rfl ?_
  refine aj_getR (TX := TX1) zc1 (by decide) rfl (Or.inl zg_161) dX1_worth_51 (fun r1 => ?_)
  refine r_alen (t := 101) (by decide) dX1_worth_54 (fun v2 => ?_)
  refine aj_icmp_lt (tgt := 62) dX1_worth_55 (by decide) (fun h => ?_) (fun h => ?_)
  · refine aj_aload_n (0) dX1_worth_62 rfl rfl ?_
    refine aj_getR (TX := TX1) zc1 (by decide) rfl (Or.inl zg_161) dX1_worth_63 (fun r3 => ?_)
    refine aj_iload_n (2) dX1_worth_66 rfl rfl ?_
    refine aj_iload (4) dX1_worth_67 rfl ?_
    refine aj_if_ne (tgt := 85) dX1_worth_69 (by decide) (fun h => ?_) (fun h => ?_)
    · refine aj_aload_n (0) dX1_worth_85 rfl rfl ?_
      refine aj_aload_n (0) dX1_worth_86 rfl rfl ?_
      refine aj_getR (TX := TX1) zc1 (by decide) rfl (Or.inl zg_157) dX1_worth_87 (fun r4 => ?_)
      refine aj_iload (3) dX1_worth_90 rfl ?_
      refine rV_I (as := [.int (x4)]) (c_X5_get w S _ _ _) mv_X5_get rfl zg_748 (by decide) (Nat.le_of_ble_eq_true rfl) dX1_worth_92 (fun v5 => ?_)
      refine rV_J (as := [.int (v5)]) (c_X1_nameWorth w S _ _ _) mv_X1_nameWorth rfl zg_872 (by decide) (Nat.le_of_ble_eq_true rfl) dX1_worth_95 (fun w6 => ?_)
      refine r_last dX1_worth_98 (fun M7 => ?_)
      refine aj_iinc (j := 2) (v := (x3 + (1 : Int32))) (ls2 := [(3, .int ((x3 + (1 : Int32)))), (0, .ref (p0)), (2, .int (x2)), (4, .int (x4)), (5, .int (x5))]) dX1_worth_99 rfl rfl (Nat.le_of_ble_eq_true rfl) rfl ?_
      refine aj_goto (tgt := 198) dX1_worth_102 (by decide) ?_
      refine aj_iinc (j := 3) (v := (x4 + (1 : Int32))) (ls2 := [(4, .int ((x4 + (1 : Int32)))), (3, .int ((x3 + (1 : Int32)))), (0, .ref (p0)), (2, .int (x2)), (5, .int (x5))]) dX1_worth_198 rfl rfl (Nat.le_of_ble_eq_true rfl) rfl ?_
      refine aj_goto (tgt := 21) dX1_worth_201 (by decide) ?_
      refine AJ.sub [2, 3, 1, 0] rfl ?_
      exact hk21 (p0) (x2) ((x3 + (1 : Int32))) ((x4 + (1 : Int32))) M7
    refine aj_aload_n (0) dX1_worth_72 rfl rfl ?_
    refine aj_getR (TX := TX1) zc1 (by decide) rfl (Or.inl zg_157) dX1_worth_73 (fun r8 => ?_)
    refine aj_iload (3) dX1_worth_76 rfl ?_
    refine rV_I (as := [.int (x4)]) (c_X5_get w S _ _ _) mv_X5_get rfl zg_748 (by decide) (Nat.le_of_ble_eq_true rfl) dX1_worth_78 (fun v9 => ?_)
    refine aj_i2l dX1_worth_81 ?_
    refine aj_goto (tgt := 98) dX1_worth_82 (by decide) ?_
    refine r_last dX1_worth_98 (fun M10 => ?_)
    refine aj_iinc (j := 2) (v := (x3 + (1 : Int32))) (ls2 := [(3, .int ((x3 + (1 : Int32)))), (0, .ref (p0)), (2, .int (x2)), (4, .int (x4)), (5, .int (x5))]) dX1_worth_99 rfl rfl (Nat.le_of_ble_eq_true rfl) rfl ?_
    refine aj_goto (tgt := 198) dX1_worth_102 (by decide) ?_
    refine aj_iinc (j := 3) (v := (x4 + (1 : Int32))) (ls2 := [(4, .int ((x4 + (1 : Int32)))), (3, .int ((x3 + (1 : Int32)))), (0, .ref (p0)), (2, .int (x2)), (5, .int (x5))]) dX1_worth_198 rfl rfl (Nat.le_of_ble_eq_true rfl) rfl ?_
    refine aj_goto (tgt := 21) dX1_worth_201 (by decide) ?_
    refine AJ.sub [2, 3, 1, 0] rfl ?_
    exact hk21 (p0) (x2) ((x3 + (1 : Int32))) ((x4 + (1 : Int32))) M10
  refine aj_ldc2 (v := (-9223372036854775808 : Int64)) dX1_worth_58 zg_871 ?_
  exact aj_lret dX1_worth_61 rfl rfl
def gX1_worth_120 (S : List (Nat × Nat)) (k21 : Nat → Int32 → Int32 → Int32 → zM → Option (Int64 × zM)) (p0 : Nat) (x2 : Int32) (x3 : Int32) (x4 : Int32) (x5 : Int32) (x0s : Int32) (M : zM) : Option (Int64 × zM) := (if x0s < 0 then some ((-9223372036854775808 : Int64), M) else zgR S M (p0) 1 7 5 (fun r1 => zal S 101 (r1) (fun v2 => (if x3 ≤ v2 then zgR S M (p0) 1 7 5 (fun r3 => zaL S M (r3) (x0s) (fun w4 => zgR S M (p0) 1 7 5 (fun r5 => zaL S M (r5) ((x3 - (1 : Int32))) (fun w6 => (gX1_joined S (x5) (w4) (w6) M).bind (fun w7 => (if 0 < (lg_cmp w7 (1000000000000 : Int64)) then some ((-9223372036854775808 : Int64), M) else (if 0 ≤ (lg_cmp w7 (-1000000000000 : Int64)) then zgR S M (p0) 1 7 5 (fun r8 => zbL S M (r8) (x0s) (w7) (fun M9 => k21 (p0) (x2) ((x0s + (1 : Int32))) ((x4 + (1 : Int32))) M9)) else some ((-9223372036854775808 : Int64), M)))))))) else some ((-9223372036854775808 : Int64), M)))))
set_option maxHeartbeats 4000000 in
set_option maxRecDepth 100000 in
theorem t_X1_worth_120 (w : zWd) (S : List (Nat × Nat)) (k21 : Nat → Int32 → Int32 → Int32 → zM → Option (Int64 × zM)) (hk21 : ∀ (p0 : Nat) (x2 : Int32) (x3 : Int32) (x4 : Int32) (M : zM), AJ (zfJM S) w 3 mX1_worth 21 [(0, .ref (p0)), (2, .int (x2)), (3, .int (x3)), (4, .int (x4))] [] (S, M) (k21 p0 x2 x3 x4 M)) (p0 : Nat) (x2 : Int32) (x3 : Int32) (x4 : Int32) (x5 : Int32) (x0s : Int32) (M : zM) : AJ (zfJM S) w 3 mX1_worth 120 [(0, .ref (p0)), (2, .int (x2)), (3, .int (x3)), (4, .int (x4)), (5, .int (x5))] [.int (x0s)] (S, M) (gX1_worth_120 S k21 p0 x2 x3 x4 x5 x0s M) := by
  unfold gX1_worth_120
  refine aj_istore (ls2 := [(6, .int (x0s)), (0, .ref (p0)), (2, .int (x2)), (3, .int (x3)), (4, .int (x4)), (5, .int (x5))]) dX1_worth_120 (Nat.le_of_ble_eq_true rfl) rfl ?_
  refine aj_iload (0) dX1_worth_122 rfl ?_
  refine aj_if_lt (tgt := 136) dX1_worth_124 (by decide) (fun h => ?_) (fun h => ?_)
  · refine aj_ldc2 (v := (-9223372036854775808 : Int64)) dX1_worth_136 zg_871 ?_
    exact aj_lret dX1_worth_139 rfl rfl
  refine aj_iload_n (3) dX1_worth_127 rfl rfl ?_
  refine aj_aload_n (1) dX1_worth_128 rfl rfl ?_
  refine aj_getR (TX := TX1) zc1 (by decide) rfl (Or.inl zg_161) dX1_worth_129 (fun r1 => ?_)
  refine r_alen (t := 101) (by decide) dX1_worth_132 (fun v2 => ?_)
  refine aj_icmp_le (tgt := 140) dX1_worth_133 (by decide) (fun h => ?_) (fun h => ?_)
  · refine aj_iload (5) dX1_worth_140 rfl ?_
    refine aj_aload_n (1) dX1_worth_142 rfl rfl ?_
    refine aj_getR (TX := TX1) zc1 (by decide) rfl (Or.inl zg_161) dX1_worth_143 (fun r3 => ?_)
    refine aj_iload (0) dX1_worth_146 rfl ?_
    refine r_lald dX1_worth_148 (fun w4 => ?_)
    refine aj_aload_n (1) dX1_worth_149 rfl rfl ?_
    refine aj_getR (TX := TX1) zc1 (by decide) rfl (Or.inl zg_161) dX1_worth_150 (fun r5 => ?_)
    refine aj_iload_n (3) dX1_worth_153 rfl rfl ?_
    refine aj_iconst (v := (1 : Int32)) dX1_worth_154 (by decide) ?_
    refine aj_isub dX1_worth_155 ?_
    refine r_lald dX1_worth_156 (fun w6 => ?_)
    refine rS_J (as := [.int (x5), .long (w4), .long (w6)]) (c_X1_joined w S _ _ _ _) ms_X1_joined rfl zg_876 (by decide) (Nat.le_of_ble_eq_true rfl) dX1_worth_157 (fun w7 => ?_)
    refine aj_lstore (ls2 := [(7, .long (w7)), (6, .int (x0s)), (0, .ref (p0)), (2, .int (x2)), (3, .int (x3)), (4, .int (x4)), (5, .int (x5))]) dX1_worth_160 (Nat.le_of_ble_eq_true rfl) rfl ?_
    refine aj_lload (0) dX1_worth_162 rfl ?_
    refine aj_ldc2 (v := (1000000000000 : Int64)) dX1_worth_164 zg_882 ?_
    refine aj_lcmp dX1_worth_167 ?_
    refine aj_if_gt (tgt := 180) dX1_worth_168 (by decide) (fun h => ?_) (fun h => ?_)
    · refine aj_ldc2 (v := (-9223372036854775808 : Int64)) dX1_worth_180 zg_871 ?_
      exact aj_lret dX1_worth_183 rfl rfl
    refine aj_lload (0) dX1_worth_171 rfl ?_
    refine aj_ldc2 (v := (-1000000000000 : Int64)) dX1_worth_173 zg_883 ?_
    refine aj_lcmp dX1_worth_176 ?_
    refine aj_if_ge (tgt := 184) dX1_worth_177 (by decide) (fun h => ?_) (fun h => ?_)
    · refine aj_aload_n (2) dX1_worth_184 rfl rfl ?_
      refine aj_getR (TX := TX1) zc1 (by decide) rfl (Or.inl zg_161) dX1_worth_185 (fun r8 => ?_)
      refine aj_iload (1) dX1_worth_188 rfl ?_
      refine aj_lload (0) dX1_worth_190 rfl ?_
      refine r_last dX1_worth_192 (fun M9 => ?_)
      refine aj_iload (1) dX1_worth_193 rfl ?_
      refine aj_iconst (v := (1 : Int32)) dX1_worth_195 (by decide) ?_
      refine aj_iadd dX1_worth_196 ?_
      refine aj_istore_n (ls2 := [(3, .int ((x0s + (1 : Int32)))), (7, .long (w7)), (6, .int (x0s)), (0, .ref (p0)), (2, .int (x2)), (4, .int (x4)), (5, .int (x5))]) dX1_worth_197 rfl (Nat.le_of_ble_eq_true rfl) rfl ?_
      refine aj_iinc (j := 5) (v := (x4 + (1 : Int32))) (ls2 := [(4, .int ((x4 + (1 : Int32)))), (3, .int ((x0s + (1 : Int32)))), (7, .long (w7)), (6, .int (x0s)), (0, .ref (p0)), (2, .int (x2)), (5, .int (x5))]) dX1_worth_198 rfl rfl (Nat.le_of_ble_eq_true rfl) rfl ?_
      refine aj_goto (tgt := 21) dX1_worth_201 (by decide) ?_
      refine AJ.sub [4, 5, 1, 0] rfl ?_
      exact hk21 (p0) (x2) ((x0s + (1 : Int32))) ((x4 + (1 : Int32))) M9
    refine aj_ldc2 (v := (-9223372036854775808 : Int64)) dX1_worth_180 zg_871 ?_
    exact aj_lret dX1_worth_183 rfl rfl
  refine aj_ldc2 (v := (-9223372036854775808 : Int64)) dX1_worth_136 zg_871 ?_
  exact aj_lret dX1_worth_139 rfl rfl
def gX1_worth_21 (S : List (Nat × Nat)) : Nat → Nat → Int32 → Int32 → Int32 → zM → Option (Int64 × zM)
  | 0 => fun _ _ _ _ _ => none
  | n + 1 => fun p0 x2 x3 x4 M => (if x2 ≤ x4 then (if x3 = (1 : Int32) then zgR S M (p0) 1 7 5 (fun r1 => zaL S M (r1) ((0 : Int32)) (fun w2 => some (w2, M))) else some ((-9223372036854775808 : Int64), M)) else zgR S M (p0) 1 7 0 (fun r3 => zrc S (r3) 5 1 ((gX5_get S (r3) (x4) M).bind (fun v4 => (if v4 = 0 then gX1_worth_49 S (gX1_worth_21 S   n) (p0) (x2) (x3) (x4) (v4) M else (if v4 = (1 : Int32) then gX1_worth_49 S (gX1_worth_21 S   n) (p0) (x2) (x3) (x4) (v4) M else (if v4 = (5 : Int32) then gX1_worth_120 S (gX1_worth_21 S   n) (p0) (x2) (x3) (x4) (v4) ((x3 - (1 : Int32))) M else gX1_worth_120 S (gX1_worth_21 S   n) (p0) (x2) (x3) (x4) (v4) ((x3 - (2 : Int32))) M)))))))
set_option maxHeartbeats 4000000 in
set_option maxRecDepth 100000 in
theorem t_X1_worth_21 (w : zWd) (S : List (Nat × Nat)) (fu : Nat) : ∀ (p0 : Nat) (x2 : Int32) (x3 : Int32) (x4 : Int32) (M : zM), AJ (zfJM S) w 3 mX1_worth 21 [(0, .ref (p0)), (2, .int (x2)), (3, .int (x3)), (4, .int (x4))] [] (S, M) (gX1_worth_21 S fu p0 x2 x3 x4 M) := by
  induction fu with
  | zero => intro p0 x2 x3 x4 M; exact AJ.none
  | succ n ih =>
    intro p0 x2 x3 x4 M
    unfold gX1_worth_21
    refine aj_iload (3) dX1_worth_21 rfl ?_
    refine aj_iload_n (1) dX1_worth_23 rfl rfl ?_
    refine aj_icmp_ge (tgt := 204) dX1_worth_24 (by decide) (fun h => ?_) (fun h => ?_)
    · refine aj_iload_n (2) dX1_worth_204 rfl rfl ?_
      refine aj_iconst (v := (1 : Int32)) dX1_worth_205 (by decide) ?_
      refine aj_icmp_ne (tgt := 218) dX1_worth_206 (by decide) (fun h => ?_) (fun h => ?_)
      · refine aj_ldc2 (v := (-9223372036854775808 : Int64)) dX1_worth_218 zg_871 ?_
        exact aj_lret dX1_worth_221 rfl rfl
      refine aj_aload_n (0) dX1_worth_209 rfl rfl ?_
      refine aj_getR (TX := TX1) zc1 (by decide) rfl (Or.inl zg_161) dX1_worth_210 (fun r1 => ?_)
      refine aj_iconst (v := (0 : Int32)) dX1_worth_213 (by decide) ?_
      refine r_lald dX1_worth_214 (fun w2 => ?_)
      refine aj_goto (tgt := 221) dX1_worth_215 (by decide) ?_
      exact aj_lret dX1_worth_221 rfl rfl
    refine aj_aload_n (0) dX1_worth_27 rfl rfl ?_
    refine aj_getR (TX := TX1) zc1 (by decide) rfl (Or.inl zg_156) dX1_worth_28 (fun r3 => ?_)
    refine aj_iload (3) dX1_worth_31 rfl ?_
    refine rV_I (as := [.int (x4)]) (c_X5_get w S _ _ _) mv_X5_get rfl zg_748 (by decide) (Nat.le_of_ble_eq_true rfl) dX1_worth_33 (fun v4 => ?_)
    refine aj_istore (ls2 := [(5, .int (v4)), (0, .ref (p0)), (2, .int (x2)), (3, .int (x3)), (4, .int (x4))]) dX1_worth_36 (Nat.le_of_ble_eq_true rfl) rfl ?_
    refine aj_iload (0) dX1_worth_38 rfl ?_
    refine aj_if_eq (tgt := 49) dX1_worth_40 (by decide) (fun h => ?_) (fun h => ?_)
    · refine AJ.sub [1, 2, 3, 4, 0] rfl ?_
      exact t_X1_worth_49 w S (gX1_worth_21 S   n) ih (p0) (x2) (x3) (x4) (v4) M
    refine aj_iload (0) dX1_worth_43 rfl ?_
    refine aj_iconst (v := (1 : Int32)) dX1_worth_45 (by decide) ?_
    refine aj_icmp_ne (tgt := 105) dX1_worth_46 (by decide) (fun h => ?_) (fun h => ?_)
    · refine aj_iload (0) dX1_worth_105 rfl ?_
      refine aj_iconst (v := (5 : Int32)) dX1_worth_107 (by decide) ?_
      refine aj_icmp_ne (tgt := 117) dX1_worth_108 (by decide) (fun h => ?_) (fun h => ?_)
      · refine aj_iload_n (3) dX1_worth_117 rfl rfl ?_
        refine aj_iconst (v := (2 : Int32)) dX1_worth_118 (by decide) ?_
        refine aj_isub dX1_worth_119 ?_
        refine AJ.sub [1, 2, 3, 4, 0] rfl ?_
        exact t_X1_worth_120 w S (gX1_worth_21 S   n) ih (p0) (x2) (x3) (x4) (v4) ((x3 - (2 : Int32))) M
      refine aj_iload_n (3) dX1_worth_111 rfl rfl ?_
      refine aj_iconst (v := (1 : Int32)) dX1_worth_112 (by decide) ?_
      refine aj_isub dX1_worth_113 ?_
      refine aj_goto (tgt := 120) dX1_worth_114 (by decide) ?_
      refine AJ.sub [1, 2, 3, 4, 0] rfl ?_
      exact t_X1_worth_120 w S (gX1_worth_21 S   n) ih (p0) (x2) (x3) (x4) (v4) ((x3 - (1 : Int32))) M
    refine AJ.sub [1, 2, 3, 4, 0] rfl ?_
    exact t_X1_worth_49 w S (gX1_worth_21 S   n) ih (p0) (x2) (x3) (x4) (v4) M
def gX1_worth (S : List (Nat × Nat)) (p0 : Nat) (x1 : Int32) (M : zM) : Option (Int64 × zM) := zgR S M (p0) 1 7 3 (fun r1 => zrc S (r1) 5 1 ((gX5_get S (r1) (x1) M).bind (fun v2 => zgR S M (p0) 1 7 2 (fun r3 => zrc S (r3) 5 1 ((gX5_get S (r3) (x1) M).bind (fun v4 => gX1_worth_21 S zfu (p0) (v2) ((0 : Int32)) (v4) M))))))
set_option maxHeartbeats 4000000 in
set_option maxRecDepth 100000 in
theorem c_X1_worth (w : zWd) (S : List (Nat × Nat)) (p0 : Nat) (x1 : Int32) (M : zM) : CT (zfJM S) w 3 mX1_worth [.ref (p0), .int (x1)] (S, M) (gX1_worth S p0 x1 M) := by
  refine CT.of (by decide) (Nat.le_of_ble_eq_true rfl) ?_
  show AJ _ _ _ _ 0 [(0, .ref (p0)), (1, .int (x1))] [] _ _
  unfold gX1_worth
  refine aj_aload_n (0) dX1_worth_0 rfl rfl ?_
  refine aj_getR (TX := TX1) zc1 (by decide) rfl (Or.inl zg_159) dX1_worth_1 (fun r1 => ?_)
  refine aj_iload_n (1) dX1_worth_4 rfl rfl ?_
  refine rV_I (as := [.int (x1)]) (c_X5_get w S _ _ _) mv_X5_get rfl zg_748 (by decide) (Nat.le_of_ble_eq_true rfl) dX1_worth_5 (fun v2 => ?_)
  refine aj_istore_n (ls2 := [(2, .int (v2)), (0, .ref (p0)), (1, .int (x1))]) dX1_worth_8 rfl (Nat.le_of_ble_eq_true rfl) rfl ?_
  refine aj_iconst (v := (0 : Int32)) dX1_worth_9 (by decide) ?_
  refine aj_istore_n (ls2 := [(3, .int ((0 : Int32))), (2, .int (v2)), (0, .ref (p0)), (1, .int (x1))]) dX1_worth_10 rfl (Nat.le_of_ble_eq_true rfl) rfl ?_
  refine aj_aload_n (2) dX1_worth_11 rfl rfl ?_
  refine aj_getR (TX := TX1) zc1 (by decide) rfl (Or.inl zg_158) dX1_worth_12 (fun r3 => ?_)
  refine aj_iload_n (3) dX1_worth_15 rfl rfl ?_
  refine rV_I (as := [.int (x1)]) (c_X5_get w S _ _ _) mv_X5_get rfl zg_748 (by decide) (Nat.le_of_ble_eq_true rfl) dX1_worth_16 (fun v4 => ?_)
  refine aj_istore (ls2 := [(4, .int (v4)), (3, .int ((0 : Int32))), (2, .int (v2)), (0, .ref (p0)), (1, .int (x1))]) dX1_worth_19 (Nat.le_of_ble_eq_true rfl) rfl ?_
  refine AJ.sub [3, 2, 1, 0] rfl ?_
  exact t_X1_worth_21 w S zfu (p0) (v2) ((0 : Int32)) (v4) M
def gX1_clear (S : List (Nat × Nat)) (p0 : Nat) (M : zM) : Option zM := zpI S M (p0) 1 7 6 ((0 : Int32)) (fun M1 => zgR S M1 (p0) 1 7 2 (fun r2 => zrc S (r2) 5 1 ((gX5_fill S (r2) ((0 : Int32)) M1).bind (fun M3 => zgR S M3 (p0) 1 7 3 (fun r4 => zrc S (r4) 5 1 ((gX5_fill S (r4) ((0 : Int32)) M3).bind (fun M5 => some M5)))))))
set_option maxHeartbeats 4000000 in
set_option maxRecDepth 100000 in
theorem c_X1_clear (w : zWd) (S : List (Nat × Nat)) (p0 : Nat) (M : zM) : CT (zfVM S) w 2 mX1_clear [.ref (p0)] (S, M) (gX1_clear S p0 M) := by
  refine CT.of (by decide) (Nat.le_of_ble_eq_true rfl) ?_
  show AJ _ _ _ _ 0 [(0, .ref (p0))] [] _ _
  unfold gX1_clear
  refine aj_aload_n (0) dX1_clear_0 rfl rfl ?_
  refine aj_iconst (v := (0 : Int32)) dX1_clear_1 (by decide) ?_
  refine r_putI (TX := TX1) zc1 (by decide) rfl rfl rfl rfl (Or.inl zg_162) dX1_clear_2 (fun M1 => ?_)
  refine aj_aload_n (0) dX1_clear_5 rfl rfl ?_
  refine aj_getR (TX := TX1) zc1 (by decide) rfl (Or.inl zg_158) dX1_clear_6 (fun r2 => ?_)
  refine aj_iconst (v := (0 : Int32)) dX1_clear_9 (by decide) ?_
  refine rV_VM (as := [.int ((0 : Int32))]) (c_X5_fill w S _ _ _) mv_X5_fill rfl zg_628 (by decide) (Nat.le_of_ble_eq_true rfl) dX1_clear_10 (fun M3 => ?_)
  refine aj_aload_n (0) dX1_clear_13 rfl rfl ?_
  refine aj_getR (TX := TX1) zc1 (by decide) rfl (Or.inl zg_159) dX1_clear_14 (fun r4 => ?_)
  refine aj_iconst (v := (0 : Int32)) dX1_clear_17 (by decide) ?_
  refine rV_VM (as := [.int ((0 : Int32))]) (c_X5_fill w S _ _ _) mv_X5_fill rfl zg_628 (by decide) (Nat.le_of_ble_eq_true rfl) dX1_clear_18 (fun M5 => ?_)
  exact aj_vret dX1_clear_21 rfl rfl
def gX1_begin (S : List (Nat × Nat)) (p0 : Nat) (x1 : Int32) (M : zM) : Option zM := zgR S M (p0) 1 7 2 (fun r1 => zgI S M (p0) 1 7 6 (fun v2 => zrc S (r1) 5 1 ((gX5_set S (r1) (x1) (v2) M).bind (fun M3 => some M3))))
set_option maxHeartbeats 4000000 in
set_option maxRecDepth 100000 in
theorem c_X1_begin (w : zWd) (S : List (Nat × Nat)) (p0 : Nat) (x1 : Int32) (M : zM) : CT (zfVM S) w 2 mX1_begin [.ref (p0), .int (x1)] (S, M) (gX1_begin S p0 x1 M) := by
  refine CT.of (by decide) (Nat.le_of_ble_eq_true rfl) ?_
  show AJ _ _ _ _ 0 [(0, .ref (p0)), (1, .int (x1))] [] _ _
  unfold gX1_begin
  refine aj_aload_n (0) dX1_begin_0 rfl rfl ?_
  refine aj_getR (TX := TX1) zc1 (by decide) rfl (Or.inl zg_158) dX1_begin_1 (fun r1 => ?_)
  refine aj_iload_n (1) dX1_begin_4 rfl rfl ?_
  refine aj_aload_n (0) dX1_begin_5 rfl rfl ?_
  refine r_getI (TX := TX1) zc1 (by decide) rfl (Or.inl zg_162) dX1_begin_6 (fun v2 => ?_)
  refine rV_VM (as := [.int (x1), .int (v2)]) (c_X5_set w S _ _ _ _) mv_X5_set rfl zg_753 (by decide) (Nat.le_of_ble_eq_true rfl) dX1_begin_9 (fun M3 => ?_)
  exact aj_vret dX1_begin_12 rfl rfl
def gX1_add (S : List (Nat × Nat)) (p0 : Nat) (x1 : Int32) (x2 : Int32) (M : zM) : Option zM := zgR S M (p0) 1 7 0 (fun r1 => zgI S M (p0) 1 7 6 (fun v2 => zrc S (r1) 5 1 ((gX5_set S (r1) (v2) (x1) M).bind (fun M3 => zgR S M3 (p0) 1 7 1 (fun r4 => zgI S M3 (p0) 1 7 6 (fun v5 => zrc S (r4) 5 1 ((gX5_set S (r4) (v5) (x2) M3).bind (fun M6 => zgI S M6 (p0) 1 7 6 (fun v7 => zpI S M6 (p0) 1 7 6 ((v7 + (1 : Int32))) (fun M8 => some M8))))))))))
set_option maxHeartbeats 4000000 in
set_option maxRecDepth 100000 in
theorem c_X1_add (w : zWd) (S : List (Nat × Nat)) (p0 : Nat) (x1 : Int32) (x2 : Int32) (M : zM) : CT (zfVM S) w 2 mX1_add [.ref (p0), .int (x1), .int (x2)] (S, M) (gX1_add S p0 x1 x2 M) := by
  refine CT.of (by decide) (Nat.le_of_ble_eq_true rfl) ?_
  show AJ _ _ _ _ 0 [(0, .ref (p0)), (1, .int (x1)), (2, .int (x2))] [] _ _
  unfold gX1_add
  refine aj_aload_n (0) dX1_add_0 rfl rfl ?_
  refine aj_getR (TX := TX1) zc1 (by decide) rfl (Or.inl zg_156) dX1_add_1 (fun r1 => ?_)
  refine aj_aload_n (0) dX1_add_4 rfl rfl ?_
  refine r_getI (TX := TX1) zc1 (by decide) rfl (Or.inl zg_162) dX1_add_5 (fun v2 => ?_)
  refine aj_iload_n (1) dX1_add_8 rfl rfl ?_
  refine rV_VM (as := [.int (v2), .int (x1)]) (c_X5_set w S _ _ _ _) mv_X5_set rfl zg_753 (by decide) (Nat.le_of_ble_eq_true rfl) dX1_add_9 (fun M3 => ?_)
  refine aj_aload_n (0) dX1_add_12 rfl rfl ?_
  refine aj_getR (TX := TX1) zc1 (by decide) rfl (Or.inl zg_157) dX1_add_13 (fun r4 => ?_)
  refine aj_aload_n (0) dX1_add_16 rfl rfl ?_
  refine r_getI (TX := TX1) zc1 (by decide) rfl (Or.inl zg_162) dX1_add_17 (fun v5 => ?_)
  refine aj_iload_n (2) dX1_add_20 rfl rfl ?_
  refine rV_VM (as := [.int (v5), .int (x2)]) (c_X5_set w S _ _ _ _) mv_X5_set rfl zg_753 (by decide) (Nat.le_of_ble_eq_true rfl) dX1_add_21 (fun M6 => ?_)
  refine aj_aload_n (0) dX1_add_24 rfl rfl ?_
  refine aj_dup dX1_add_25 rfl ?_
  refine r_getI (TX := TX1) zc1 (by decide) rfl (Or.inl zg_162) dX1_add_26 (fun v7 => ?_)
  refine aj_iconst (v := (1 : Int32)) dX1_add_29 (by decide) ?_
  refine aj_iadd dX1_add_30 ?_
  refine r_putI (TX := TX1) zc1 (by decide) rfl rfl rfl rfl (Or.inl zg_162) dX1_add_31 (fun M8 => ?_)
  exact aj_vret dX1_add_34 rfl rfl
def gX1_end (S : List (Nat × Nat)) (p0 : Nat) (x1 : Int32) (M : zM) : Option zM := zgR S M (p0) 1 7 3 (fun r1 => zgI S M (p0) 1 7 6 (fun v2 => zrc S (r1) 5 1 ((gX5_set S (r1) (x1) (v2) M).bind (fun M3 => some M3))))
set_option maxHeartbeats 4000000 in
set_option maxRecDepth 100000 in
theorem c_X1_end (w : zWd) (S : List (Nat × Nat)) (p0 : Nat) (x1 : Int32) (M : zM) : CT (zfVM S) w 2 mX1_end [.ref (p0), .int (x1)] (S, M) (gX1_end S p0 x1 M) := by
  refine CT.of (by decide) (Nat.le_of_ble_eq_true rfl) ?_
  show AJ _ _ _ _ 0 [(0, .ref (p0)), (1, .int (x1))] [] _ _
  unfold gX1_end
  refine aj_aload_n (0) dX1_end_0 rfl rfl ?_
  refine aj_getR (TX := TX1) zc1 (by decide) rfl (Or.inl zg_159) dX1_end_1 (fun r1 => ?_)
  refine aj_iload_n (1) dX1_end_4 rfl rfl ?_
  refine aj_aload_n (0) dX1_end_5 rfl rfl ?_
  refine r_getI (TX := TX1) zc1 (by decide) rfl (Or.inl zg_162) dX1_end_6 (fun v2 => ?_)
  refine rV_VM (as := [.int (x1), .int (v2)]) (c_X5_set w S _ _ _ _) mv_X5_set rfl zg_753 (by decide) (Nat.le_of_ble_eq_true rfl) dX1_end_9 (fun M3 => ?_)
  exact aj_vret dX1_end_12 rfl rfl
