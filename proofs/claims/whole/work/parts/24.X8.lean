/-! DayOpeners$Steps: functions of its methods and their contracts: written by wip/whole/gen/dec.py -/
def gX8_init (p0 : Nat) (S : List (Nat × Nat)) (M : zM) : Option zH := znew S M 5 1 (fun S1 M2 r3 => zmk2 S1 (gX5_init (r3) ((260 : Int32)) S1 M2) (fun S4 M5 => zpR S4 M5 (p0) 8 2 0 (some (r3)) (fun M6 => some (S4, M6))))
set_option maxHeartbeats 4000000 in
set_option maxRecDepth 100000 in
theorem c_X8_init (w : zWd) (hz : zSZ w) (hg : w.2.2.2.2.2 = 0) (p0 : Nat) (S : List (Nat × Nat)) (M : zM) : CT zfC w 3 mX8_init [.ref (p0)] (S, M) (gX8_init p0 S M) := by
  refine CT.of (by decide) (Nat.le_of_ble_eq_true rfl) ?_
  show AJ _ _ _ _ 0 [(0, .ref (p0))] [] _ _
  unfold gX8_init
  refine aj_aload_n (0) dX8_init_0 rfl rfl ?_
  refine aj_obj zg_486 zg_31 zg_32 (by decide) (Nat.le_of_ble_eq_true rfl) dX8_init_1 ?_
  refine aj_aload_n (0) dX8_init_4 rfl rfl ?_
  refine r_new (TX := TX5) hg zc5 zg_487 zg_34 zg_2 dX8_init_5 (fun S1 M2 r3 => ?_)
  refine aj_dup dX8_init_8 rfl ?_
  refine aj_sipush (v := (260 : Int32)) dX8_init_9 (by decide) ?_
  refine rC (as := [.int ((260 : Int32))]) hg (c_X5_init w hz hg _ _ _ _) mc_X5_init rfl (Or.inl zg_488) (by decide) (Nat.le_of_ble_eq_true rfl) dX8_init_12 (fun S4 M5 => ?_)
  refine r_putR (TX := TX8) zc8 (by decide) rfl (Or.inr ⟨rfl, rfl, rfl, zg_489⟩) (Or.inl zg_489) dX8_init_15 (fun M6 => ?_)
  exact aj_vret dX8_init_18 rfl rfl
def gX8_clear (S : List (Nat × Nat)) (p0 : Nat) (M : zM) : Option zM := zpI S M (p0) 8 2 1 ((0 : Int32)) (fun M1 => some M1)
set_option maxHeartbeats 4000000 in
set_option maxRecDepth 100000 in
theorem c_X8_clear (w : zWd) (S : List (Nat × Nat)) (p0 : Nat) (M : zM) : CT (zfVM S) w 1 mX8_clear [.ref (p0)] (S, M) (gX8_clear S p0 M) := by
  refine CT.of (by decide) (Nat.le_of_ble_eq_true rfl) ?_
  show AJ _ _ _ _ 0 [(0, .ref (p0))] [] _ _
  unfold gX8_clear
  refine aj_aload_n (0) dX8_clear_0 rfl rfl ?_
  refine aj_iconst (v := (0 : Int32)) dX8_clear_1 (by decide) ?_
  refine r_putI (TX := TX8) zc8 (by decide) rfl rfl rfl rfl (Or.inl zg_490) dX8_clear_2 (fun M1 => ?_)
  exact aj_vret dX8_clear_5 rfl rfl
def gX8_add_51 (S : List (Nat × Nat)) : Nat → Nat → Nat → Int32 → zM → Option zM
  | 0 => fun _ _ _ _ => none
  | n + 1 => fun p0 p1 x2 M => (if (12 : Int32) ≤ x2 then zgR S M (p0) 8 2 0 (fun r1 => zgI S M (p0) 8 2 1 (fun v2 => zgI S M (p1) 7 15 3 (fun v3 => zrc S (r1) 5 1 ((gX5_set S (r1) (((v2 * (13 : Int32)) + (12 : Int32))) (v3) M).bind (fun M4 => zgI S M4 (p0) 8 2 1 (fun v5 => zpI S M4 (p0) 8 2 1 ((v5 + (1 : Int32))) (fun M6 => some M6))))))) else zgR S M (p0) 8 2 0 (fun r7 => zgI S M (p0) 8 2 1 (fun v8 => zgR S M (p1) 7 15 11 (fun r9 => zrc S (r9) 5 1 ((gX5_get S (r9) (x2) M).bind (fun v10 => zrc S (r7) 5 1 ((gX5_set S (r7) (((v8 * (13 : Int32)) + x2)) (v10) M).bind (fun M11 => (gX8_add_51 S   n) (p0) (p1) ((x2 + (1 : Int32))) M11))))))))
set_option maxHeartbeats 4000000 in
set_option maxRecDepth 100000 in
theorem t_X8_add_51 (w : zWd) (S : List (Nat × Nat)) (fu : Nat) : ∀ (p0 : Nat) (p1 : Nat) (x2 : Int32) (M : zM), AJ (zfVM S) w 2 mX8_add 51 [(0, .ref (p0)), (1, .ref (p1)), (2, .int (x2))] [] (S, M) (gX8_add_51 S fu p0 p1 x2 M) := by
  induction fu with
  | zero => intro p0 p1 x2 M; exact AJ.none
  | succ n ih =>
    intro p0 p1 x2 M
    unfold gX8_add_51
    refine aj_iload_n (2) dX8_add_51 rfl rfl ?_
    refine aj_bipush (v := (12 : Int32)) dX8_add_52 (by decide) ?_
    refine aj_icmp_ge (tgt := 87) dX8_add_54 (by decide) (fun h => ?_) (fun h => ?_)
    · refine aj_aload_n (0) dX8_add_87 rfl rfl ?_
      refine aj_getR (TX := TX8) zc8 (by decide) rfl (Or.inl zg_489) dX8_add_88 (fun r1 => ?_)
      refine aj_aload_n (0) dX8_add_91 rfl rfl ?_
      refine r_getI (TX := TX8) zc8 (by decide) rfl (Or.inl zg_490) dX8_add_92 (fun v2 => ?_)
      refine aj_bipush (v := (13 : Int32)) dX8_add_95 (by decide) ?_
      refine aj_imul dX8_add_97 ?_
      refine aj_bipush (v := (12 : Int32)) dX8_add_98 (by decide) ?_
      refine aj_iadd dX8_add_100 ?_
      refine aj_aload_n (1) dX8_add_101 rfl rfl ?_
      refine r_getI (TX := TX7) zc7 (by decide) rfl (Or.inr ⟨_, zn_336⟩) dX8_add_102 (fun v3 => ?_)
      refine rV_VM (as := [.int (((v2 * (13 : Int32)) + (12 : Int32))), .int (v3)]) (c_X5_set w S _ _ _ _) mv_X5_set rfl zg_911 (by decide) (Nat.le_of_ble_eq_true rfl) dX8_add_105 (fun M4 => ?_)
      refine aj_aload_n (0) dX8_add_108 rfl rfl ?_
      refine aj_dup dX8_add_109 rfl ?_
      refine r_getI (TX := TX8) zc8 (by decide) rfl (Or.inl zg_490) dX8_add_110 (fun v5 => ?_)
      refine aj_iconst (v := (1 : Int32)) dX8_add_113 (by decide) ?_
      refine aj_iadd dX8_add_114 ?_
      refine r_putI (TX := TX8) zc8 (by decide) rfl rfl rfl rfl (Or.inl zg_490) dX8_add_115 (fun M6 => ?_)
      exact aj_vret dX8_add_118 rfl rfl
    refine aj_aload_n (0) dX8_add_57 rfl rfl ?_
    refine aj_getR (TX := TX8) zc8 (by decide) rfl (Or.inl zg_489) dX8_add_58 (fun r7 => ?_)
    refine aj_aload_n (0) dX8_add_61 rfl rfl ?_
    refine r_getI (TX := TX8) zc8 (by decide) rfl (Or.inl zg_490) dX8_add_62 (fun v8 => ?_)
    refine aj_bipush (v := (13 : Int32)) dX8_add_65 (by decide) ?_
    refine aj_imul dX8_add_67 ?_
    refine aj_iload_n (2) dX8_add_68 rfl rfl ?_
    refine aj_iadd dX8_add_69 ?_
    refine aj_aload_n (1) dX8_add_70 rfl rfl ?_
    refine aj_getR (TX := TX7) zc7 (by decide) rfl (Or.inr ⟨_, zn_364⟩) dX8_add_71 (fun r9 => ?_)
    refine aj_iload_n (2) dX8_add_74 rfl rfl ?_
    refine rV_I (as := [.int (x2)]) (c_X5_get w S _ _ _) mv_X5_get rfl zg_910 (by decide) (Nat.le_of_ble_eq_true rfl) dX8_add_75 (fun v10 => ?_)
    refine rV_VM (as := [.int (((v8 * (13 : Int32)) + x2)), .int (v10)]) (c_X5_set w S _ _ _ _) mv_X5_set rfl zg_911 (by decide) (Nat.le_of_ble_eq_true rfl) dX8_add_78 (fun M11 => ?_)
    refine aj_iinc (j := 2) (v := (x2 + (1 : Int32))) (ls2 := [(2, .int ((x2 + (1 : Int32)))), (0, .ref (p0)), (1, .ref (p1))]) dX8_add_81 rfl rfl (Nat.le_of_ble_eq_true rfl) rfl ?_
    refine aj_goto (tgt := 51) dX8_add_84 (by decide) ?_
    refine AJ.sub [1, 2, 0] rfl ?_
    exact ih (p0) (p1) ((x2 + (1 : Int32))) M11
def gX8_add_11 (S : List (Nat × Nat)) : Nat → Nat → Nat → Int32 → zM → Option zM
  | 0 => fun _ _ _ _ => none
  | n + 1 => fun p0 p1 x2 M => (if (247 : Int32) ≤ x2 then zpI S M (p0) 8 2 1 ((19 : Int32)) (fun M1 => gX8_add_51 S zfu (p0) (p1) ((0 : Int32)) M1) else zgR S M (p0) 8 2 0 (fun r2 => zgR S M (p0) 8 2 0 (fun r3 => zrc S (r3) 5 1 ((gX5_get S (r3) ((x2 + (13 : Int32))) M).bind (fun v4 => zrc S (r2) 5 1 ((gX5_set S (r2) (x2) (v4) M).bind (fun M5 => (gX8_add_11 S   n) (p0) (p1) ((x2 + (1 : Int32))) M5)))))))
set_option maxHeartbeats 4000000 in
set_option maxRecDepth 100000 in
theorem t_X8_add_11 (w : zWd) (S : List (Nat × Nat)) (fu : Nat) : ∀ (p0 : Nat) (p1 : Nat) (x2 : Int32) (M : zM), AJ (zfVM S) w 2 mX8_add 11 [(0, .ref (p0)), (1, .ref (p1)), (2, .int (x2))] [] (S, M) (gX8_add_11 S fu p0 p1 x2 M) := by
  induction fu with
  | zero => intro p0 p1 x2 M; exact AJ.none
  | succ n ih =>
    intro p0 p1 x2 M
    unfold gX8_add_11
    refine aj_iload_n (2) dX8_add_11 rfl rfl ?_
    refine aj_sipush (v := (247 : Int32)) dX8_add_12 (by decide) ?_
    refine aj_icmp_ge (tgt := 43) dX8_add_15 (by decide) (fun h => ?_) (fun h => ?_)
    · refine aj_aload_n (0) dX8_add_43 rfl rfl ?_
      refine aj_bipush (v := (19 : Int32)) dX8_add_44 (by decide) ?_
      refine r_putI (TX := TX8) zc8 (by decide) rfl rfl rfl rfl (Or.inl zg_490) dX8_add_46 (fun M1 => ?_)
      refine aj_iconst (v := (0 : Int32)) dX8_add_49 (by decide) ?_
      refine aj_istore_n (ls2 := [(2, .int ((0 : Int32))), (0, .ref (p0)), (1, .ref (p1))]) dX8_add_50 rfl (Nat.le_of_ble_eq_true rfl) rfl ?_
      refine AJ.sub [1, 2, 0] rfl ?_
      exact t_X8_add_51 w S zfu (p0) (p1) ((0 : Int32)) M1
    refine aj_aload_n (0) dX8_add_18 rfl rfl ?_
    refine aj_getR (TX := TX8) zc8 (by decide) rfl (Or.inl zg_489) dX8_add_19 (fun r2 => ?_)
    refine aj_iload_n (2) dX8_add_22 rfl rfl ?_
    refine aj_aload_n (0) dX8_add_23 rfl rfl ?_
    refine aj_getR (TX := TX8) zc8 (by decide) rfl (Or.inl zg_489) dX8_add_24 (fun r3 => ?_)
    refine aj_iload_n (2) dX8_add_27 rfl rfl ?_
    refine aj_bipush (v := (13 : Int32)) dX8_add_28 (by decide) ?_
    refine aj_iadd dX8_add_30 ?_
    refine rV_I (as := [.int ((x2 + (13 : Int32)))]) (c_X5_get w S _ _ _) mv_X5_get rfl zg_910 (by decide) (Nat.le_of_ble_eq_true rfl) dX8_add_31 (fun v4 => ?_)
    refine rV_VM (as := [.int (x2), .int (v4)]) (c_X5_set w S _ _ _ _) mv_X5_set rfl zg_911 (by decide) (Nat.le_of_ble_eq_true rfl) dX8_add_34 (fun M5 => ?_)
    refine aj_iinc (j := 2) (v := (x2 + (1 : Int32))) (ls2 := [(2, .int ((x2 + (1 : Int32)))), (0, .ref (p0)), (1, .ref (p1))]) dX8_add_37 rfl rfl (Nat.le_of_ble_eq_true rfl) rfl ?_
    refine aj_goto (tgt := 11) dX8_add_40 (by decide) ?_
    refine AJ.sub [1, 2, 0] rfl ?_
    exact ih (p0) (p1) ((x2 + (1 : Int32))) M5
def gX8_add (S : List (Nat × Nat)) (p0 : Nat) (p1 : Nat) (M : zM) : Option zM := zgI S M (p0) 8 2 1 (fun v1 => (if v1 < (20 : Int32) then gX8_add_51 S zfu (p0) (p1) ((0 : Int32)) M else gX8_add_11 S zfu (p0) (p1) ((0 : Int32)) M))
set_option maxHeartbeats 4000000 in
set_option maxRecDepth 100000 in
theorem c_X8_add (w : zWd) (S : List (Nat × Nat)) (p0 : Nat) (p1 : Nat) (M : zM) : CT (zfVM S) w 2 mX8_add [.ref (p0), .ref (p1)] (S, M) (gX8_add S p0 p1 M) := by
  refine CT.of (by decide) (Nat.le_of_ble_eq_true rfl) ?_
  show AJ _ _ _ _ 0 [(0, .ref (p0)), (1, .ref (p1))] [] _ _
  unfold gX8_add
  refine aj_aload_n (0) dX8_add_0 rfl rfl ?_
  refine r_getI (TX := TX8) zc8 (by decide) rfl (Or.inl zg_490) dX8_add_1 (fun v1 => ?_)
  refine aj_bipush (v := (20 : Int32)) dX8_add_4 (by decide) ?_
  refine aj_icmp_lt (tgt := 49) dX8_add_6 (by decide) (fun h => ?_) (fun h => ?_)
  · refine aj_iconst (v := (0 : Int32)) dX8_add_49 (by decide) ?_
    refine aj_istore_n (ls2 := [(2, .int ((0 : Int32))), (0, .ref (p0)), (1, .ref (p1))]) dX8_add_50 rfl (Nat.le_of_ble_eq_true rfl) rfl ?_
    refine AJ.sub [1, 2, 0] rfl ?_
    exact t_X8_add_51 w S zfu (p0) (p1) ((0 : Int32)) M
  refine aj_iconst (v := (0 : Int32)) dX8_add_9 (by decide) ?_
  refine aj_istore_n (ls2 := [(2, .int ((0 : Int32))), (0, .ref (p0)), (1, .ref (p1))]) dX8_add_10 rfl (Nat.le_of_ble_eq_true rfl) rfl ?_
  refine AJ.sub [1, 2, 0] rfl ?_
  exact t_X8_add_11 w S zfu (p0) (p1) ((0 : Int32)) M
def gX8_takeBack_21 (S : List (Nat × Nat)) : Nat → Nat → Nat → Int32 → zM → Option (Int32 × zM)
  | 0 => fun _ _ _ _ => none
  | n + 1 => fun p0 p1 x2 M => (if (12 : Int32) ≤ x2 then zgR S M (p0) 8 2 0 (fun r1 => zgI S M (p0) 8 2 1 (fun v2 => zrc S (r1) 5 1 ((gX5_get S (r1) (((v2 * (13 : Int32)) + (12 : Int32))) M).bind (fun v3 => zpI S M (p1) 7 15 3 (v3) (fun M4 => zgI S M4 (p0) 8 2 1 (fun v5 => some (v5, M4))))))) else zgR S M (p1) 7 15 11 (fun r6 => zgR S M (p0) 8 2 0 (fun r7 => zgI S M (p0) 8 2 1 (fun v8 => zrc S (r7) 5 1 ((gX5_get S (r7) (((v8 * (13 : Int32)) + x2)) M).bind (fun v9 => zrc S (r6) 5 1 ((gX5_set S (r6) (x2) (v9) M).bind (fun M10 => (gX8_takeBack_21 S   n) (p0) (p1) ((x2 + (1 : Int32))) M10))))))))
set_option maxHeartbeats 4000000 in
set_option maxRecDepth 100000 in
theorem t_X8_takeBack_21 (w : zWd) (S : List (Nat × Nat)) (fu : Nat) : ∀ (p0 : Nat) (p1 : Nat) (x2 : Int32) (M : zM), AJ (zfIM S) w 2 mX8_takeBack 21 [(0, .ref (p0)), (1, .ref (p1)), (2, .int (x2))] [] (S, M) (gX8_takeBack_21 S fu p0 p1 x2 M) := by
  induction fu with
  | zero => intro p0 p1 x2 M; exact AJ.none
  | succ n ih =>
    intro p0 p1 x2 M
    unfold gX8_takeBack_21
    refine aj_iload_n (2) dX8_takeBack_21 rfl rfl ?_
    refine aj_bipush (v := (12 : Int32)) dX8_takeBack_22 (by decide) ?_
    refine aj_icmp_ge (tgt := 57) dX8_takeBack_24 (by decide) (fun h => ?_) (fun h => ?_)
    · refine aj_aload_n (1) dX8_takeBack_57 rfl rfl ?_
      refine aj_aload_n (0) dX8_takeBack_58 rfl rfl ?_
      refine aj_getR (TX := TX8) zc8 (by decide) rfl (Or.inl zg_489) dX8_takeBack_59 (fun r1 => ?_)
      refine aj_aload_n (0) dX8_takeBack_62 rfl rfl ?_
      refine r_getI (TX := TX8) zc8 (by decide) rfl (Or.inl zg_490) dX8_takeBack_63 (fun v2 => ?_)
      refine aj_bipush (v := (13 : Int32)) dX8_takeBack_66 (by decide) ?_
      refine aj_imul dX8_takeBack_68 ?_
      refine aj_bipush (v := (12 : Int32)) dX8_takeBack_69 (by decide) ?_
      refine aj_iadd dX8_takeBack_71 ?_
      refine rV_I (as := [.int (((v2 * (13 : Int32)) + (12 : Int32)))]) (c_X5_get w S _ _ _) mv_X5_get rfl zg_910 (by decide) (Nat.le_of_ble_eq_true rfl) dX8_takeBack_72 (fun v3 => ?_)
      refine r_putI (TX := TX7) zc7 (by decide) rfl rfl rfl rfl (Or.inr ⟨_, zn_336⟩) dX8_takeBack_75 (fun M4 => ?_)
      refine aj_aload_n (0) dX8_takeBack_78 rfl rfl ?_
      refine r_getI (TX := TX8) zc8 (by decide) rfl (Or.inl zg_490) dX8_takeBack_79 (fun v5 => ?_)
      exact aj_iret dX8_takeBack_82 rfl rfl rfl
    refine aj_aload_n (1) dX8_takeBack_27 rfl rfl ?_
    refine aj_getR (TX := TX7) zc7 (by decide) rfl (Or.inr ⟨_, zn_364⟩) dX8_takeBack_28 (fun r6 => ?_)
    refine aj_iload_n (2) dX8_takeBack_31 rfl rfl ?_
    refine aj_aload_n (0) dX8_takeBack_32 rfl rfl ?_
    refine aj_getR (TX := TX8) zc8 (by decide) rfl (Or.inl zg_489) dX8_takeBack_33 (fun r7 => ?_)
    refine aj_aload_n (0) dX8_takeBack_36 rfl rfl ?_
    refine r_getI (TX := TX8) zc8 (by decide) rfl (Or.inl zg_490) dX8_takeBack_37 (fun v8 => ?_)
    refine aj_bipush (v := (13 : Int32)) dX8_takeBack_40 (by decide) ?_
    refine aj_imul dX8_takeBack_42 ?_
    refine aj_iload_n (2) dX8_takeBack_43 rfl rfl ?_
    refine aj_iadd dX8_takeBack_44 ?_
    refine rV_I (as := [.int (((v8 * (13 : Int32)) + x2))]) (c_X5_get w S _ _ _) mv_X5_get rfl zg_910 (by decide) (Nat.le_of_ble_eq_true rfl) dX8_takeBack_45 (fun v9 => ?_)
    refine rV_VM (as := [.int (x2), .int (v9)]) (c_X5_set w S _ _ _ _) mv_X5_set rfl zg_911 (by decide) (Nat.le_of_ble_eq_true rfl) dX8_takeBack_48 (fun M10 => ?_)
    refine aj_iinc (j := 2) (v := (x2 + (1 : Int32))) (ls2 := [(2, .int ((x2 + (1 : Int32)))), (0, .ref (p0)), (1, .ref (p1))]) dX8_takeBack_51 rfl rfl (Nat.le_of_ble_eq_true rfl) rfl ?_
    refine aj_goto (tgt := 21) dX8_takeBack_54 (by decide) ?_
    refine AJ.sub [1, 2, 0] rfl ?_
    exact ih (p0) (p1) ((x2 + (1 : Int32))) M10
def gX8_takeBack (S : List (Nat × Nat)) (p0 : Nat) (p1 : Nat) (M : zM) : Option (Int32 × zM) := zgI S M (p0) 8 2 1 (fun v1 => (if v1 = 0 then some ((-1 : Int32), M) else zgI S M (p0) 8 2 1 (fun v2 => zpI S M (p0) 8 2 1 ((v2 - (1 : Int32))) (fun M3 => gX8_takeBack_21 S zfu (p0) (p1) ((0 : Int32)) M3))))
set_option maxHeartbeats 4000000 in
set_option maxRecDepth 100000 in
theorem c_X8_takeBack (w : zWd) (S : List (Nat × Nat)) (p0 : Nat) (p1 : Nat) (M : zM) : CT (zfIM S) w 2 mX8_takeBack [.ref (p0), .ref (p1)] (S, M) (gX8_takeBack S p0 p1 M) := by
  refine CT.of (by decide) (Nat.le_of_ble_eq_true rfl) ?_
  show AJ _ _ _ _ 0 [(0, .ref (p0)), (1, .ref (p1))] [] _ _
  unfold gX8_takeBack
  refine aj_aload_n (0) dX8_takeBack_0 rfl rfl ?_
  refine r_getI (TX := TX8) zc8 (by decide) rfl (Or.inl zg_490) dX8_takeBack_1 (fun v1 => ?_)
  refine aj_if_ne (tgt := 9) dX8_takeBack_4 (by decide) (fun h => ?_) (fun h => ?_)
  · refine aj_aload_n (0) dX8_takeBack_9 rfl rfl ?_
    refine aj_dup dX8_takeBack_10 rfl ?_
    refine r_getI (TX := TX8) zc8 (by decide) rfl (Or.inl zg_490) dX8_takeBack_11 (fun v2 => ?_)
    refine aj_iconst (v := (1 : Int32)) dX8_takeBack_14 (by decide) ?_
    refine aj_isub dX8_takeBack_15 ?_
    refine r_putI (TX := TX8) zc8 (by decide) rfl rfl rfl rfl (Or.inl zg_490) dX8_takeBack_16 (fun M3 => ?_)
    refine aj_iconst (v := (0 : Int32)) dX8_takeBack_19 (by decide) ?_
    refine aj_istore_n (ls2 := [(2, .int ((0 : Int32))), (0, .ref (p0)), (1, .ref (p1))]) dX8_takeBack_20 rfl (Nat.le_of_ble_eq_true rfl) rfl ?_
    refine AJ.sub [1, 2, 0] rfl ?_
    exact t_X8_takeBack_21 w S zfu (p0) (p1) ((0 : Int32)) M3
  refine aj_iconst (v := (-1 : Int32)) dX8_takeBack_7 (by decide) ?_
  exact aj_iret dX8_takeBack_8 rfl rfl rfl
