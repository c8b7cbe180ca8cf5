/-! DayOpeners$Seats: functions of its methods and their contracts: written by wip/whole/gen/dec.py -/
def gX6_init (p0 : Nat) (S : List (Nat × Nat)) (M : zM) : Option zH := znew S M 5 1 (fun S1 M2 r3 => zmk2 S1 (gX5_init (r3) ((12 : Int32)) S1 M2) (fun S4 M5 => zpR S4 M5 (p0) 6 3 0 (some (r3)) (fun M6 => znew S4 M6 5 1 (fun S7 M8 r9 => zmk2 S7 (gX5_init (r9) ((12 : Int32)) S7 M8) (fun S10 M11 => zpR S10 M11 (p0) 6 3 1 (some (r9)) (fun M12 => znew S10 M12 5 1 (fun S13 M14 r15 => zmk2 S13 (gX5_init (r15) ((6 : Int32)) S13 M14) (fun S16 M17 => zpR S16 M17 (p0) 6 3 2 (some (r15)) (fun M18 => some (S16, M18))))))))))
set_option maxHeartbeats 4000000 in
set_option maxRecDepth 100000 in
theorem c_X6_init (w : zWd) (hz : zSZ w) (hg : w.2.2.2.2.2 = 0) (p0 : Nat) (S : List (Nat × Nat)) (M : zM) : CT zfC w 3 mX6_init [.ref (p0)] (S, M) (gX6_init p0 S M) := by
  refine CT.of (by decide) (Nat.le_of_ble_eq_true rfl) ?_
  show AJ _ _ _ _ 0 [(0, .ref (p0))] [] _ _
  unfold gX6_init
  refine aj_aload_n (0) dX6_init_0 rfl rfl ?_
  refine aj_obj zg_502 zg_31 zg_32 (by decide) (Nat.le_of_ble_eq_true rfl) dX6_init_1 ?_
  refine aj_aload_n (0) dX6_init_4 rfl rfl ?_
  refine r_new (TX := TX5) hg zc5 zg_503 zg_34 zg_2 dX6_init_5 (fun S1 M2 r3 => ?_)
  refine aj_dup dX6_init_8 rfl ?_
  refine aj_bipush (v := (12 : Int32)) dX6_init_9 (by decide) ?_
  refine rC (as := [.int ((12 : Int32))]) hg (c_X5_init w hz hg _ _ _ _) mc_X5_init rfl (Or.inl zg_504) (by decide) (Nat.le_of_ble_eq_true rfl) dX6_init_11 (fun S4 M5 => ?_)
  refine r_putR (TX := TX6) zc6 (by decide) rfl (Or.inr ⟨rfl, rfl, rfl, zg_505⟩) (Or.inl zg_505) dX6_init_14 (fun M6 => ?_)
  refine aj_aload_n (0) dX6_init_17 rfl rfl ?_
  refine r_new (TX := TX5) hg zc5 zg_503 zg_34 zg_2 dX6_init_18 (fun S7 M8 r9 => ?_)
  refine aj_dup dX6_init_21 rfl ?_
  refine aj_bipush (v := (12 : Int32)) dX6_init_22 (by decide) ?_
  refine rC (as := [.int ((12 : Int32))]) hg (c_X5_init w hz hg _ _ _ _) mc_X5_init rfl (Or.inl zg_504) (by decide) (Nat.le_of_ble_eq_true rfl) dX6_init_24 (fun S10 M11 => ?_)
  refine r_putR (TX := TX6) zc6 (by decide) rfl (Or.inr ⟨rfl, rfl, rfl, zg_507⟩) (Or.inl zg_507) dX6_init_27 (fun M12 => ?_)
  refine aj_aload_n (0) dX6_init_30 rfl rfl ?_
  refine r_new (TX := TX5) hg zc5 zg_503 zg_34 zg_2 dX6_init_31 (fun S13 M14 r15 => ?_)
  refine aj_dup dX6_init_34 rfl ?_
  refine aj_bipush (v := (6 : Int32)) dX6_init_35 (by decide) ?_
  refine rC (as := [.int ((6 : Int32))]) hg (c_X5_init w hz hg _ _ _ _) mc_X5_init rfl (Or.inl zg_504) (by decide) (Nat.le_of_ble_eq_true rfl) dX6_init_37 (fun S16 M17 => ?_)
  refine r_putR (TX := TX6) zc6 (by decide) rfl (Or.inr ⟨rfl, rfl, rfl, zg_508⟩) (Or.inl zg_508) dX6_init_40 (fun M18 => ?_)
  exact aj_vret dX6_init_43 rfl rfl
def gX6_apart (S : List (Nat × Nat)) (p0 : Nat) (p1 : Nat) (x2 : Int32) (x3 : Int32) (M : zM) : Option Int32 := zgR S M (p0) 10 18 4 (fun r1 => zgR S M (p1) 7 15 11 (fun r2 => zrc S (r2) 5 1 ((gX5_get S (r2) (x2) M).bind (fun v3 => zrc S (r1) 5 1 ((gX5_get S (r1) (v3) M).bind (fun v4 => some ((if 0 ≤ (x3 - v4) then (x3 - v4) else 0 - (x3 - v4)))))))))
set_option maxHeartbeats 4000000 in
set_option maxRecDepth 100000 in
theorem c_X6_apart (w : zWd) (S : List (Nat × Nat)) (p0 : Nat) (p1 : Nat) (x2 : Int32) (x3 : Int32) (M : zM) : CT (zfI S M) w 2 mX6_apart [.ref (p0), .ref (p1), .int (x2), .int (x3)] (S, M) (gX6_apart S p0 p1 x2 x3 M) := by
  refine CT.of (by decide) (Nat.le_of_ble_eq_true rfl) ?_
  show AJ _ _ _ _ 0 [(0, .ref (p0)), (1, .ref (p1)), (2, .int (x2)), (3, .int (x3))] [] _ _
  unfold gX6_apart
  refine aj_iload_n (3) dX6_apart_0 rfl rfl ?_
  refine aj_aload_n (0) dX6_apart_1 rfl rfl ?_
  refine aj_getR (TX := TX10) zc10 (by decide) rfl (Or.inr ⟨_, zn_195⟩) dX6_apart_2 (fun r1 => ?_)
  refine aj_aload_n (1) dX6_apart_5 rfl rfl ?_
  refine aj_getR (TX := TX7) zc7 (by decide) rfl (Or.inr ⟨_, zn_363⟩) dX6_apart_6 (fun r2 => ?_)
  refine aj_iload_n (2) dX6_apart_9 rfl rfl ?_
  refine rV_I (as := [.int (x2)]) (c_X5_get w S _ _ _) mv_X5_get rfl zg_1060 (by decide) (Nat.le_of_ble_eq_true rfl) dX6_apart_10 (fun v3 => ?_)
  refine rV_I (as := [.int (v3)]) (c_X5_get w S _ _ _) mv_X5_get rfl zg_1060 (by decide) (Nat.le_of_ble_eq_true rfl) dX6_apart_13 (fun v4 => ?_)
  refine aj_isub dX6_apart_16 ?_
  refine aj_mabs zg_1068 zg_1069 zg_3 zg_1070 (by decide) (Nat.le_of_ble_eq_true rfl) dX6_apart_17 ?_
  exact aj_iret dX6_apart_20 rfl rfl rfl
def gX6_closeRing_32 (S : List (Nat × Nat)) : Nat → Nat → Nat → Int32 → Int32 → zM → Option zM
  | 0 => fun _ _ _ _ _ => none
  | n + 1 => fun p0 p1 x3 x4 M => zgI S M (p1) 7 15 10 (fun v1 => (if v1 ≤ x4 then some M else zgR S M (p0) 6 3 0 (fun r2 => zgR S M (p0) 6 3 1 (fun r3 => zrc S (r3) 5 1 ((gX5_get S (r3) (x3) M).bind (fun v4 => zrc S (r2) 5 1 ((gX5_get S (r2) (v4) M).bind (fun v5 => (if v5 = (-1 : Int32) then zgR S M (p0) 6 3 0 (fun r6 => zgR S M (p0) 6 3 1 (fun r7 => zrc S (r7) 5 1 ((gX5_get S (r7) (x3) M).bind (fun v8 => zgR S M (p1) 7 15 11 (fun r9 => zrc S (r9) 5 1 ((gX5_get S (r9) (x3) M).bind (fun v10 => zrc S (r6) 5 1 ((gX5_set S (r6) (v8) (v10) M).bind (fun M11 => zgR S M11 (p0) 6 3 1 (fun r12 => zrc S (r12) 5 1 ((gX5_get S (r12) (x3) M11).bind (fun v13 => (gX6_closeRing_32 S   n) (p0) (p1) (v13) ((x4 + (1 : Int32))) M11)))))))))))) else some M)))))))))
set_option maxHeartbeats 4000000 in
set_option maxRecDepth 100000 in
theorem t_X6_closeRing_32 (w : zWd) (S : List (Nat × Nat)) (fu : Nat) : ∀ (p0 : Nat) (p1 : Nat) (x3 : Int32) (x4 : Int32) (M : zM), AJ (zfVM S) w 2 mX6_closeRing 32 [(0, .ref (p0)), (1, .ref (p1)), (3, .int (x3)), (4, .int (x4))] [] (S, M) (gX6_closeRing_32 S fu p0 p1 x3 x4 M) := by
  induction fu with
  | zero => intro p0 p1 x3 x4 M; exact AJ.none
  | succ n ih =>
    intro p0 p1 x3 x4 M
    unfold gX6_closeRing_32
    refine aj_iload (3) dX6_closeRing_32 rfl ?_
    refine aj_aload_n (1) dX6_closeRing_34 rfl rfl ?_
    refine r_getI (TX := TX7) zc7 (by decide) rfl (Or.inr ⟨_, zn_359⟩) dX6_closeRing_35 (fun v1 => ?_)
    refine aj_icmp_ge (tgt := 98) dX6_closeRing_38 (by decide) (fun h => ?_) (fun h => ?_)
    · exact aj_vret dX6_closeRing_98 rfl rfl
    refine aj_aload_n (0) dX6_closeRing_41 rfl rfl ?_
    refine aj_getR (TX := TX6) zc6 (by decide) rfl (Or.inl zg_505) dX6_closeRing_42 (fun r2 => ?_)
    refine aj_aload_n (0) dX6_closeRing_45 rfl rfl ?_
    refine aj_getR (TX := TX6) zc6 (by decide) rfl (Or.inl zg_507) dX6_closeRing_46 (fun r3 => ?_)
    refine aj_iload_n (2) dX6_closeRing_49 rfl rfl ?_
    refine rV_I (as := [.int (x3)]) (c_X5_get w S _ _ _) mv_X5_get rfl zg_1060 (by decide) (Nat.le_of_ble_eq_true rfl) dX6_closeRing_50 (fun v4 => ?_)
    refine rV_I (as := [.int (v4)]) (c_X5_get w S _ _ _) mv_X5_get rfl zg_1060 (by decide) (Nat.le_of_ble_eq_true rfl) dX6_closeRing_53 (fun v5 => ?_)
    refine aj_iconst (v := (-1 : Int32)) dX6_closeRing_56 (by decide) ?_
    refine aj_icmp_ne (tgt := 98) dX6_closeRing_57 (by decide) (fun h => ?_) (fun h => ?_)
    · exact aj_vret dX6_closeRing_98 rfl rfl
    refine aj_aload_n (0) dX6_closeRing_60 rfl rfl ?_
    refine aj_getR (TX := TX6) zc6 (by decide) rfl (Or.inl zg_505) dX6_closeRing_61 (fun r6 => ?_)
    refine aj_aload_n (0) dX6_closeRing_64 rfl rfl ?_
    refine aj_getR (TX := TX6) zc6 (by decide) rfl (Or.inl zg_507) dX6_closeRing_65 (fun r7 => ?_)
    refine aj_iload_n (2) dX6_closeRing_68 rfl rfl ?_
    refine rV_I (as := [.int (x3)]) (c_X5_get w S _ _ _) mv_X5_get rfl zg_1060 (by decide) (Nat.le_of_ble_eq_true rfl) dX6_closeRing_69 (fun v8 => ?_)
    refine aj_aload_n (1) dX6_closeRing_72 rfl rfl ?_
    refine aj_getR (TX := TX7) zc7 (by decide) rfl (Or.inr ⟨_, zn_363⟩) dX6_closeRing_73 (fun r9 => ?_)
    refine aj_iload_n (2) dX6_closeRing_76 rfl rfl ?_
    refine rV_I (as := [.int (x3)]) (c_X5_get w S _ _ _) mv_X5_get rfl zg_1060 (by decide) (Nat.le_of_ble_eq_true rfl) dX6_closeRing_77 (fun v10 => ?_)
    refine rV_VM (as := [.int (v8), .int (v10)]) (c_X5_set w S _ _ _ _) mv_X5_set rfl zg_1071 (by decide) (Nat.le_of_ble_eq_true rfl) dX6_closeRing_80 (fun M11 => ?_)
    refine aj_aload_n (0) dX6_closeRing_83 rfl rfl ?_
    refine aj_getR (TX := TX6) zc6 (by decide) rfl (Or.inl zg_507) dX6_closeRing_84 (fun r12 => ?_)
    refine aj_iload_n (2) dX6_closeRing_87 rfl rfl ?_
    refine rV_I (as := [.int (x3)]) (c_X5_get w S _ _ _) mv_X5_get rfl zg_1060 (by decide) (Nat.le_of_ble_eq_true rfl) dX6_closeRing_88 (fun v13 => ?_)
    refine aj_istore_n (ls2 := [(3, .int (v13)), (0, .ref (p0)), (1, .ref (p1)), (4, .int (x4))]) dX6_closeRing_91 rfl (Nat.le_of_ble_eq_true rfl) rfl ?_
    refine aj_iinc (j := 3) (v := (x4 + (1 : Int32))) (ls2 := [(4, .int ((x4 + (1 : Int32)))), (3, .int (v13)), (0, .ref (p0)), (1, .ref (p1))]) dX6_closeRing_92 rfl rfl (Nat.le_of_ble_eq_true rfl) rfl ?_
    refine aj_goto (tgt := 32) dX6_closeRing_95 (by decide) ?_
    refine AJ.sub [2, 3, 1, 0] rfl ?_
    exact ih (p0) (p1) (v13) ((x4 + (1 : Int32))) M11
def gX6_closeRing_5 (S : List (Nat × Nat)) : Nat → Nat → Nat → Int32 → Int32 → zM → Option zM
  | 0 => fun _ _ _ _ _ => none
  | n + 1 => fun p0 p1 x3 x4 M => zgI S M (p1) 7 15 10 (fun v1 => (if v1 ≤ x4 then gX6_closeRing_32 S zfu (p0) (p1) (x3) ((0 : Int32)) M else zgR S M (p0) 6 3 1 (fun r2 => zrc S (r2) 5 1 ((gX5_get S (r2) (x3) M).bind (fun v3 => (gX6_closeRing_5 S   n) (p0) (p1) (v3) ((x4 + (1 : Int32))) M)))))
set_option maxHeartbeats 4000000 in
set_option maxRecDepth 100000 in
theorem t_X6_closeRing_5 (w : zWd) (S : List (Nat × Nat)) (fu : Nat) : ∀ (p0 : Nat) (p1 : Nat) (x3 : Int32) (x4 : Int32) (M : zM), AJ (zfVM S) w 2 mX6_closeRing 5 [(0, .ref (p0)), (1, .ref (p1)), (3, .int (x3)), (4, .int (x4))] [] (S, M) (gX6_closeRing_5 S fu p0 p1 x3 x4 M) := by
  induction fu with
  | zero => intro p0 p1 x3 x4 M; exact AJ.none
  | succ n ih =>
    intro p0 p1 x3 x4 M
    unfold gX6_closeRing_5
    refine aj_iload (3) dX6_closeRing_5 rfl ?_
    refine aj_aload_n (1) dX6_closeRing_7 rfl rfl ?_
    refine r_getI (TX := TX7) zc7 (by decide) rfl (Or.inr ⟨_, zn_359⟩) dX6_closeRing_8 (fun v1 => ?_)
    refine aj_icmp_ge (tgt := 29) dX6_closeRing_11 (by decide) (fun h => ?_) (fun h => ?_)
    · refine aj_iconst (v := (0 : Int32)) dX6_closeRing_29 (by decide) ?_
      refine aj_istore (ls2 := [(4, .int ((0 : Int32))), (0, .ref (p0)), (1, .ref (p1)), (3, .int (x3))]) dX6_closeRing_30 (Nat.le_of_ble_eq_true rfl) rfl ?_
      refine AJ.sub [1, 2, 3, 0] rfl ?_
      exact t_X6_closeRing_32 w S zfu (p0) (p1) (x3) ((0 : Int32)) M
    refine aj_aload_n (0) dX6_closeRing_14 rfl rfl ?_
    refine aj_getR (TX := TX6) zc6 (by decide) rfl (Or.inl zg_507) dX6_closeRing_15 (fun r2 => ?_)
    refine aj_iload_n (2) dX6_closeRing_18 rfl rfl ?_
    refine rV_I (as := [.int (x3)]) (c_X5_get w S _ _ _) mv_X5_get rfl zg_1060 (by decide) (Nat.le_of_ble_eq_true rfl) dX6_closeRing_19 (fun v3 => ?_)
    refine aj_istore_n (ls2 := [(3, .int (v3)), (0, .ref (p0)), (1, .ref (p1)), (4, .int (x4))]) dX6_closeRing_22 rfl (Nat.le_of_ble_eq_true rfl) rfl ?_
    refine aj_iinc (j := 3) (v := (x4 + (1 : Int32))) (ls2 := [(4, .int ((x4 + (1 : Int32)))), (3, .int (v3)), (0, .ref (p0)), (1, .ref (p1))]) dX6_closeRing_23 rfl rfl (Nat.le_of_ble_eq_true rfl) rfl ?_
    refine aj_goto (tgt := 5) dX6_closeRing_26 (by decide) ?_
    refine AJ.sub [2, 3, 1, 0] rfl ?_
    exact ih (p0) (p1) (v3) ((x4 + (1 : Int32))) M
def gX6_closeRing (S : List (Nat × Nat)) (p0 : Nat) (p1 : Nat) (x2 : Int32) (M : zM) : Option zM := gX6_closeRing_5 S zfu (p0) (p1) (x2) ((0 : Int32)) M
set_option maxHeartbeats 4000000 in
set_option maxRecDepth 100000 in
theorem c_X6_closeRing (w : zWd) (S : List (Nat × Nat)) (p0 : Nat) (p1 : Nat) (x2 : Int32) (M : zM) : CT (zfVM S) w 2 mX6_closeRing [.ref (p0), .ref (p1), .int (x2)] (S, M) (gX6_closeRing S p0 p1 x2 M) := by
  refine CT.of (by decide) (Nat.le_of_ble_eq_true rfl) ?_
  show AJ _ _ _ _ 0 [(0, .ref (p0)), (1, .ref (p1)), (2, .int (x2))] [] _ _
  unfold gX6_closeRing
  refine aj_iload_n (2) dX6_closeRing_0 rfl rfl ?_
  refine aj_istore_n (ls2 := [(3, .int (x2)), (0, .ref (p0)), (1, .ref (p1)), (2, .int (x2))]) dX6_closeRing_1 rfl (Nat.le_of_ble_eq_true rfl) rfl ?_
  refine aj_iconst (v := (0 : Int32)) dX6_closeRing_2 (by decide) ?_
  refine aj_istore (ls2 := [(4, .int ((0 : Int32))), (3, .int (x2)), (0, .ref (p0)), (1, .ref (p1)), (2, .int (x2))]) dX6_closeRing_3 (Nat.le_of_ble_eq_true rfl) rfl ?_
  refine AJ.sub [2, 3, 1, 0] rfl ?_
  exact t_X6_closeRing_5 w S zfu (p0) (p1) (x2) ((0 : Int32)) M
def gX6_firstLeft_2 (S : List (Nat × Nat)) : Nat → Nat → Int32 → Int32 → zM → Option Int32
  | 0 => fun _ _ _ _ => none
  | n + 1 => fun p0 x1 x2 M => (if x1 ≤ x2 then some ((-1 : Int32)) else zgR S M (p0) 6 3 0 (fun r1 => zrc S (r1) 5 1 ((gX5_get S (r1) (x2) M).bind (fun v2 => (if v2 = (-1 : Int32) then some (x2) else (gX6_firstLeft_2 S   n) (p0) (x1) ((x2 + (1 : Int32))) M)))))
set_option maxHeartbeats 4000000 in
set_option maxRecDepth 100000 in
theorem t_X6_firstLeft_2 (w : zWd) (S : List (Nat × Nat)) (fu : Nat) : ∀ (p0 : Nat) (x1 : Int32) (x2 : Int32) (M : zM), AJ (zfI S M) w 2 mX6_firstLeft 2 [(0, .ref (p0)), (1, .int (x1)), (2, .int (x2))] [] (S, M) (gX6_firstLeft_2 S fu p0 x1 x2 M) := by
  induction fu with
  | zero => intro p0 x1 x2 M; exact AJ.none
  | succ n ih =>
    intro p0 x1 x2 M
    unfold gX6_firstLeft_2
    refine aj_iload_n (2) dX6_firstLeft_2 rfl rfl ?_
    refine aj_iload_n (1) dX6_firstLeft_3 rfl rfl ?_
    refine aj_icmp_ge (tgt := 27) dX6_firstLeft_4 (by decide) (fun h => ?_) (fun h => ?_)
    · refine aj_iconst (v := (-1 : Int32)) dX6_firstLeft_27 (by decide) ?_
      exact aj_iret dX6_firstLeft_28 rfl rfl rfl
    refine aj_aload_n (0) dX6_firstLeft_7 rfl rfl ?_
    refine aj_getR (TX := TX6) zc6 (by decide) rfl (Or.inl zg_505) dX6_firstLeft_8 (fun r1 => ?_)
    refine aj_iload_n (2) dX6_firstLeft_11 rfl rfl ?_
    refine rV_I (as := [.int (x2)]) (c_X5_get w S _ _ _) mv_X5_get rfl zg_1060 (by decide) (Nat.le_of_ble_eq_true rfl) dX6_firstLeft_12 (fun v2 => ?_)
    refine aj_iconst (v := (-1 : Int32)) dX6_firstLeft_15 (by decide) ?_
    refine aj_icmp_ne (tgt := 21) dX6_firstLeft_16 (by decide) (fun h => ?_) (fun h => ?_)
    · refine aj_iinc (j := 2) (v := (x2 + (1 : Int32))) (ls2 := [(2, .int ((x2 + (1 : Int32)))), (0, .ref (p0)), (1, .int (x1))]) dX6_firstLeft_21 rfl rfl (Nat.le_of_ble_eq_true rfl) rfl ?_
      refine aj_goto (tgt := 2) dX6_firstLeft_24 (by decide) ?_
      refine AJ.sub [1, 2, 0] rfl ?_
      exact ih (p0) (x1) ((x2 + (1 : Int32))) M
    refine aj_iload_n (2) dX6_firstLeft_19 rfl rfl ?_
    exact aj_iret dX6_firstLeft_20 rfl rfl rfl
def gX6_firstLeft (S : List (Nat × Nat)) (p0 : Nat) (x1 : Int32) (M : zM) : Option Int32 := gX6_firstLeft_2 S zfu (p0) (x1) ((0 : Int32)) M
set_option maxHeartbeats 4000000 in
set_option maxRecDepth 100000 in
theorem c_X6_firstLeft (w : zWd) (S : List (Nat × Nat)) (p0 : Nat) (x1 : Int32) (M : zM) : CT (zfI S M) w 2 mX6_firstLeft [.ref (p0), .int (x1)] (S, M) (gX6_firstLeft S p0 x1 M) := by
  refine CT.of (by decide) (Nat.le_of_ble_eq_true rfl) ?_
  show AJ _ _ _ _ 0 [(0, .ref (p0)), (1, .int (x1))] [] _ _
  unfold gX6_firstLeft
  refine aj_iconst (v := (0 : Int32)) dX6_firstLeft_0 (by decide) ?_
  refine aj_istore_n (ls2 := [(2, .int ((0 : Int32))), (0, .ref (p0)), (1, .int (x1))]) dX6_firstLeft_1 rfl (Nat.le_of_ble_eq_true rfl) rfl ?_
  refine AJ.sub [1, 2, 0] rfl ?_
  exact t_X6_firstLeft_2 w S zfu (p0) (x1) ((0 : Int32)) M
def gX6_wish_55 (S : List (Nat × Nat)) (k16 : Nat → Nat → Nat → Int32 → Int32 → Int32 → zM → Option zM) (p0 : Nat) (p1 : Nat) (p2 : Nat) (x3 : Int32) (x4 : Int32) (x5 : Int32) (x0s : Int32) (M : zM) : Option zM := (if x0s = 0 then k16 (p0) (p1) (p2) (x3) (x4) ((x5 + (1 : Int32))) M else zgR S M (p0) 6 3 0 (fun r1 => zrc S (r1) 5 1 ((gX5_get S (r1) (x5) M).bind (fun v2 => (if v2 = (-1 : Int32) then k16 (p0) (p1) (p2) (x3) (x5) ((x5 + (1 : Int32))) M else k16 (p0) (p1) (p2) (x3) (x4) ((x5 + (1 : Int32))) M)))))
set_option maxHeartbeats 4000000 in
set_option maxRecDepth 100000 in
theorem t_X6_wish_55 (w : zWd) (S : List (Nat × Nat)) (k16 : Nat → Nat → Nat → Int32 → Int32 → Int32 → zM → Option zM) (hk16 : ∀ (p0 : Nat) (p1 : Nat) (p2 : Nat) (x3 : Int32) (x4 : Int32) (x5 : Int32) (M : zM), AJ (zfVM S) w 3 mX6_wish 16 [(0, .ref (p0)), (1, .ref (p1)), (2, .ref (p2)), (3, .int (x3)), (4, .int (x4)), (5, .int (x5))] [] (S, M) (k16 p0 p1 p2 x3 x4 x5 M)) (p0 : Nat) (p1 : Nat) (p2 : Nat) (x3 : Int32) (x4 : Int32) (x5 : Int32) (x0s : Int32) (M : zM) : AJ (zfVM S) w 3 mX6_wish 55 [(0, .ref (p0)), (1, .ref (p1)), (2, .ref (p2)), (3, .int (x3)), (4, .int (x4)), (5, .int (x5))] [.int (x0s)] (S, M) (gX6_wish_55 S k16 p0 p1 p2 x3 x4 x5 x0s M) := by
  unfold gX6_wish_55
  refine aj_istore (ls2 := [(6, .int (x0s)), (0, .ref (p0)), (1, .ref (p1)), (2, .ref (p2)), (3, .int (x3)), (4, .int (x4)), (5, .int (x5))]) dX6_wish_55 (Nat.le_of_ble_eq_true rfl) rfl ?_
  refine aj_iload (0) dX6_wish_57 rfl ?_
  refine aj_if_eq (tgt := 79) dX6_wish_59 (by decide) (fun h => ?_) (fun h => ?_)
  · refine aj_iinc (j := 6) (v := (x5 + (1 : Int32))) (ls2 := [(5, .int ((x5 + (1 : Int32)))), (6, .int (x0s)), (0, .ref (p0)), (1, .ref (p1)), (2, .ref (p2)), (3, .int (x3)), (4, .int (x4))]) dX6_wish_79 rfl rfl (Nat.le_of_ble_eq_true rfl) rfl ?_
    refine aj_goto (tgt := 16) dX6_wish_82 (by decide) ?_
    refine AJ.sub [2, 3, 4, 5, 6, 0] rfl ?_
    exact hk16 (p0) (p1) (p2) (x3) (x4) ((x5 + (1 : Int32))) M
  refine aj_aload_n (1) dX6_wish_62 rfl rfl ?_
  refine aj_getR (TX := TX6) zc6 (by decide) rfl (Or.inl zg_505) dX6_wish_63 (fun r1 => ?_)
  refine aj_iload (6) dX6_wish_66 rfl ?_
  refine rV_I (as := [.int (x5)]) (c_X5_get w S _ _ _) mv_X5_get rfl zg_1060 (by decide) (Nat.le_of_ble_eq_true rfl) dX6_wish_68 (fun v2 => ?_)
  refine aj_iconst (v := (-1 : Int32)) dX6_wish_71 (by decide) ?_
  refine aj_icmp_ne (tgt := 79) dX6_wish_72 (by decide) (fun h => ?_) (fun h => ?_)
  · refine aj_iinc (j := 6) (v := (x5 + (1 : Int32))) (ls2 := [(5, .int ((x5 + (1 : Int32)))), (6, .int (x0s)), (0, .ref (p0)), (1, .ref (p1)), (2, .ref (p2)), (3, .int (x3)), (4, .int (x4))]) dX6_wish_79 rfl rfl (Nat.le_of_ble_eq_true rfl) rfl ?_
    refine aj_goto (tgt := 16) dX6_wish_82 (by decide) ?_
    refine AJ.sub [2, 3, 4, 5, 6, 0] rfl ?_
    exact hk16 (p0) (p1) (p2) (x3) (x4) ((x5 + (1 : Int32))) M
  refine aj_iload (6) dX6_wish_75 rfl ?_
  refine aj_istore (ls2 := [(4, .int (x5)), (6, .int (x0s)), (0, .ref (p0)), (1, .ref (p1)), (2, .ref (p2)), (3, .int (x3)), (5, .int (x5))]) dX6_wish_77 (Nat.le_of_ble_eq_true rfl) rfl ?_
  refine aj_iinc (j := 6) (v := (x5 + (1 : Int32))) (ls2 := [(5, .int ((x5 + (1 : Int32)))), (4, .int (x5)), (6, .int (x0s)), (0, .ref (p0)), (1, .ref (p1)), (2, .ref (p2)), (3, .int (x3))]) dX6_wish_79 rfl rfl (Nat.le_of_ble_eq_true rfl) rfl ?_
  refine aj_goto (tgt := 16) dX6_wish_82 (by decide) ?_
  refine AJ.sub [3, 4, 5, 6, 1, 0] rfl ?_
  exact hk16 (p0) (p1) (p2) (x3) (x5) ((x5 + (1 : Int32))) M
def gX6_wish_16 (S : List (Nat × Nat)) (k2 : Nat → Nat → Nat → Int32 → zM → Option zM) : Nat → Nat → Nat → Nat → Int32 → Int32 → Int32 → zM → Option zM
  | 0 => fun _ _ _ _ _ _ _ => none
  | n + 1 => fun p0 p1 p2 x3 x4 x5 M => zgI S M (p2) 7 15 10 (fun v1 => (if v1 ≤ x5 then zgR S M (p0) 6 3 1 (fun r2 => zrc S (r2) 5 1 ((gX5_set S (r2) (x3) (x4) M).bind (fun M3 => k2 (p0) (p1) (p2) ((x3 + (1 : Int32))) M3))) else (if x4 = (-1 : Int32) then gX6_wish_55 S (gX6_wish_16 S  k2 n) (p0) (p1) (p2) (x3) (x4) (x5) ((1 : Int32)) M else (gX6_apart S (p1) (p2) (x3) (x5) M).bind (fun v4 => (gX6_apart S (p1) (p2) (x3) (x4) M).bind (fun v5 => (if v5 ≤ v4 then gX6_wish_55 S (gX6_wish_16 S  k2 n) (p0) (p1) (p2) (x3) (x4) (x5) ((0 : Int32)) M else gX6_wish_55 S (gX6_wish_16 S  k2 n) (p0) (p1) (p2) (x3) (x4) (x5) ((1 : Int32)) M))))))
set_option maxHeartbeats 4000000 in
set_option maxRecDepth 100000 in
theorem t_X6_wish_16 (w : zWd) (S : List (Nat × Nat)) (k2 : Nat → Nat → Nat → Int32 → zM → Option zM) (hk2 : ∀ (p0 : Nat) (p1 : Nat) (p2 : Nat) (x3 : Int32) (M : zM), AJ (zfVM S) w 3 mX6_wish 2 [(0, .ref (p0)), (1, .ref (p1)), (2, .ref (p2)), (3, .int (x3))] [] (S, M) (k2 p0 p1 p2 x3 M)) (fu : Nat) : ∀ (p0 : Nat) (p1 : Nat) (p2 : Nat) (x3 : Int32) (x4 : Int32) (x5 : Int32) (M : zM), AJ (zfVM S) w 3 mX6_wish 16 [(0, .ref (p0)), (1, .ref (p1)), (2, .ref (p2)), (3, .int (x3)), (4, .int (x4)), (5, .int (x5))] [] (S, M) (gX6_wish_16 S k2 fu p0 p1 p2 x3 x4 x5 M) := by
  induction fu with
  | zero => intro p0 p1 p2 x3 x4 x5 M; exact AJ.none
  | succ n ih =>
    intro p0 p1 p2 x3 x4 x5 M
    unfold gX6_wish_16
    refine aj_iload (5) dX6_wish_16 rfl ?_
    refine aj_aload_n (2) dX6_wish_18 rfl rfl ?_
    refine r_getI (TX := TX7) zc7 (by decide) rfl (Or.inr ⟨_, zn_359⟩) dX6_wish_19 (fun v1 => ?_)
    refine aj_icmp_ge (tgt := 85) dX6_wish_22 (by decide) (fun h => ?_) (fun h => ?_)
    · refine aj_aload_n (0) dX6_wish_85 rfl rfl ?_
      refine aj_getR (TX := TX6) zc6 (by decide) rfl (Or.inl zg_507) dX6_wish_86 (fun r2 => ?_)
      refine aj_iload_n (3) dX6_wish_89 rfl rfl ?_
      refine aj_iload (4) dX6_wish_90 rfl ?_
      refine rV_VM (as := [.int (x3), .int (x4)]) (c_X5_set w S _ _ _ _) mv_X5_set rfl zg_1071 (by decide) (Nat.le_of_ble_eq_true rfl) dX6_wish_92 (fun M3 => ?_)
      refine aj_iinc (j := 3) (v := (x3 + (1 : Int32))) (ls2 := [(3, .int ((x3 + (1 : Int32)))), (0, .ref (p0)), (1, .ref (p1)), (2, .ref (p2)), (4, .int (x4)), (5, .int (x5))]) dX6_wish_95 rfl rfl (Nat.le_of_ble_eq_true rfl) rfl ?_
      refine aj_goto (tgt := 2) dX6_wish_98 (by decide) ?_
      refine AJ.sub [1, 2, 3, 0] rfl ?_
      exact hk2 (p0) (p1) (p2) ((x3 + (1 : Int32))) M3
    refine aj_iload (4) dX6_wish_25 rfl ?_
    refine aj_iconst (v := (-1 : Int32)) dX6_wish_27 (by decide) ?_
    refine aj_icmp_eq (tgt := 50) dX6_wish_28 (by decide) (fun h => ?_) (fun h => ?_)
    · refine aj_iconst (v := (1 : Int32)) dX6_wish_50 (by decide) ?_
      refine aj_goto (tgt := 55) dX6_wish_51 (by decide) ?_
      refine AJ.sub [0, 1, 2, 3, 4, 5] rfl ?_
      exact t_X6_wish_55 w S (gX6_wish_16 S  k2 n) ih (p0) (p1) (p2) (x3) (x4) (x5) ((1 : Int32)) M
    refine aj_aload_n (1) dX6_wish_31 rfl rfl ?_
    refine aj_aload_n (2) dX6_wish_32 rfl rfl ?_
    refine aj_iload_n (3) dX6_wish_33 rfl rfl ?_
    refine aj_iload (5) dX6_wish_34 rfl ?_
    refine rS_I (as := [.ref (p1), .ref (p2), .int (x3), .int (x5)]) (c_X6_apart w S _ _ _ _ _) ms_X6_apart rfl zg_1065 (by decide) (Nat.le_of_ble_eq_true rfl) dX6_wish_36 (fun v4 => ?_)
    refine aj_aload_n (1) dX6_wish_39 rfl rfl ?_
    refine aj_aload_n (2) dX6_wish_40 rfl rfl ?_
    refine aj_iload_n (3) dX6_wish_41 rfl rfl ?_
    refine aj_iload (4) dX6_wish_42 rfl ?_
    refine rS_I (as := [.ref (p1), .ref (p2), .int (x3), .int (x4)]) (c_X6_apart w S _ _ _ _ _) ms_X6_apart rfl zg_1065 (by decide) (Nat.le_of_ble_eq_true rfl) dX6_wish_44 (fun v5 => ?_)
    refine aj_icmp_ge (tgt := 54) dX6_wish_47 (by decide) (fun h => ?_) (fun h => ?_)
    · refine aj_iconst (v := (0 : Int32)) dX6_wish_54 (by decide) ?_
      refine AJ.sub [0, 1, 2, 3, 4, 5] rfl ?_
      exact t_X6_wish_55 w S (gX6_wish_16 S  k2 n) ih (p0) (p1) (p2) (x3) (x4) (x5) ((0 : Int32)) M
    refine aj_iconst (v := (1 : Int32)) dX6_wish_50 (by decide) ?_
    refine aj_goto (tgt := 55) dX6_wish_51 (by decide) ?_
    refine AJ.sub [0, 1, 2, 3, 4, 5] rfl ?_
    exact t_X6_wish_55 w S (gX6_wish_16 S  k2 n) ih (p0) (p1) (p2) (x3) (x4) (x5) ((1 : Int32)) M
def gX6_wish_2 (S : List (Nat × Nat)) : Nat → Nat → Nat → Nat → Int32 → zM → Option zM
  | 0 => fun _ _ _ _ _ => none
  | n + 1 => fun p0 p1 p2 x3 M => zgI S M (p2) 7 15 10 (fun v1 => (if v1 ≤ x3 then some M else gX6_wish_16 S (gX6_wish_2 S   n) zfu (p0) (p1) (p2) (x3) ((-1 : Int32)) ((0 : Int32)) M))
set_option maxHeartbeats 4000000 in
set_option maxRecDepth 100000 in
theorem t_X6_wish_2 (w : zWd) (S : List (Nat × Nat)) (fu : Nat) : ∀ (p0 : Nat) (p1 : Nat) (p2 : Nat) (x3 : Int32) (M : zM), AJ (zfVM S) w 3 mX6_wish 2 [(0, .ref (p0)), (1, .ref (p1)), (2, .ref (p2)), (3, .int (x3))] [] (S, M) (gX6_wish_2 S fu p0 p1 p2 x3 M) := by
  induction fu with
  | zero => intro p0 p1 p2 x3 M; exact AJ.none
  | succ n ih =>
    intro p0 p1 p2 x3 M
    unfold gX6_wish_2
    refine aj_iload_n (3) dX6_wish_2 rfl rfl ?_
    refine aj_aload_n (2) dX6_wish_3 rfl rfl ?_
    refine r_getI (TX := TX7) zc7 (by decide) rfl (Or.inr ⟨_, zn_359⟩) dX6_wish_4 (fun v1 => ?_)
    refine aj_icmp_ge (tgt := 101) dX6_wish_7 (by decide) (fun h => ?_) (fun h => ?_)
    · exact aj_vret dX6_wish_101 rfl rfl
    refine aj_iconst (v := (-1 : Int32)) dX6_wish_10 (by decide) ?_
    refine aj_istore (ls2 := [(4, .int ((-1 : Int32))), (0, .ref (p0)), (1, .ref (p1)), (2, .ref (p2)), (3, .int (x3))]) dX6_wish_11 (Nat.le_of_ble_eq_true rfl) rfl ?_
    refine aj_iconst (v := (0 : Int32)) dX6_wish_13 (by decide) ?_
    refine aj_istore (ls2 := [(5, .int ((0 : Int32))), (4, .int ((-1 : Int32))), (0, .ref (p0)), (1, .ref (p1)), (2, .ref (p2)), (3, .int (x3))]) dX6_wish_14 (Nat.le_of_ble_eq_true rfl) rfl ?_
    refine AJ.sub [2, 3, 4, 5, 1, 0] rfl ?_
    exact t_X6_wish_16 w S (gX6_wish_2 S   n) ih zfu (p0) (p1) (p2) (x3) ((-1 : Int32)) ((0 : Int32)) M
def gX6_wish (S : List (Nat × Nat)) (p0 : Nat) (p1 : Nat) (p2 : Nat) (M : zM) : Option zM := gX6_wish_2 S zfu (p0) (p1) (p2) ((0 : Int32)) M
set_option maxHeartbeats 4000000 in
set_option maxRecDepth 100000 in
theorem c_X6_wish (w : zWd) (S : List (Nat × Nat)) (p0 : Nat) (p1 : Nat) (p2 : Nat) (M : zM) : CT (zfVM S) w 3 mX6_wish [.ref (p0), .ref (p1), .ref (p2)] (S, M) (gX6_wish S p0 p1 p2 M) := by
  refine CT.of (by decide) (Nat.le_of_ble_eq_true rfl) ?_
  show AJ _ _ _ _ 0 [(0, .ref (p0)), (1, .ref (p1)), (2, .ref (p2))] [] _ _
  unfold gX6_wish
  refine aj_iconst (v := (0 : Int32)) dX6_wish_0 (by decide) ?_
  refine aj_istore_n (ls2 := [(3, .int ((0 : Int32))), (0, .ref (p0)), (1, .ref (p1)), (2, .ref (p2))]) dX6_wish_1 rfl (Nat.le_of_ble_eq_true rfl) rfl ?_
  refine AJ.sub [1, 2, 3, 0] rfl ?_
  exact t_X6_wish_2 w S zfu (p0) (p1) (p2) ((0 : Int32)) M
def gX6_share_10 (S : List (Nat × Nat)) : Nat → Nat → Nat → Nat → Int32 → zM → Option zM
  | 0 => fun _ _ _ _ _ => none
  | n + 1 => fun p0 p1 p2 x3 M => zgI S M (p2) 7 15 10 (fun v1 => (if v1 ≤ x3 then some M else zgI S M (p2) 7 15 10 (fun v2 => zrc S (p0) 6 3 ((gX6_firstLeft S (p0) (v2) M).bind (fun v3 => (if v3 = (-1 : Int32) then some M else zrc S (p0) 6 3 ((gX6_wish S (p0) (p1) (p2) M).bind (fun M4 => zrc S (p0) 6 3 ((gX6_closeRing S (p0) (p2) (v3) M4).bind (fun M5 => (gX6_share_10 S   n) (p0) (p1) (p2) ((x3 + (1 : Int32))) M5))))))))))
set_option maxHeartbeats 4000000 in
set_option maxRecDepth 100000 in
theorem t_X6_share_10 (w : zWd) (S : List (Nat × Nat)) (fu : Nat) : ∀ (p0 : Nat) (p1 : Nat) (p2 : Nat) (x3 : Int32) (M : zM), AJ (zfVM S) w 4 mX6_share 10 [(0, .ref (p0)), (1, .ref (p1)), (2, .ref (p2)), (3, .int (x3))] [] (S, M) (gX6_share_10 S fu p0 p1 p2 x3 M) := by
  induction fu with
  | zero => intro p0 p1 p2 x3 M; exact AJ.none
  | succ n ih =>
    intro p0 p1 p2 x3 M
    unfold gX6_share_10
    refine aj_iload_n (3) dX6_share_10 rfl rfl ?_
    refine aj_aload_n (2) dX6_share_11 rfl rfl ?_
    refine r_getI (TX := TX7) zc7 (by decide) rfl (Or.inr ⟨_, zn_359⟩) dX6_share_12 (fun v1 => ?_)
    refine aj_icmp_ge (tgt := 54) dX6_share_15 (by decide) (fun h => ?_) (fun h => ?_)
    · exact aj_vret dX6_share_54 rfl rfl
    refine aj_aload_n (0) dX6_share_18 rfl rfl ?_
    refine aj_aload_n (2) dX6_share_19 rfl rfl ?_
    refine r_getI (TX := TX7) zc7 (by decide) rfl (Or.inr ⟨_, zn_359⟩) dX6_share_20 (fun v2 => ?_)
    refine rV_I (as := [.int (v2)]) (c_X6_firstLeft w S _ _ _) mv_X6_firstLeft rfl zg_1056 (by decide) (Nat.le_of_ble_eq_true rfl) dX6_share_23 (fun v3 => ?_)
    refine aj_istore (ls2 := [(4, .int (v3)), (0, .ref (p0)), (1, .ref (p1)), (2, .ref (p2)), (3, .int (x3))]) dX6_share_26 (Nat.le_of_ble_eq_true rfl) rfl ?_
    refine aj_iload (0) dX6_share_28 rfl ?_
    refine aj_iconst (v := (-1 : Int32)) dX6_share_30 (by decide) ?_
    refine aj_icmp_ne (tgt := 35) dX6_share_31 (by decide) (fun h => ?_) (fun h => ?_)
    · refine aj_aload_n (1) dX6_share_35 rfl rfl ?_
      refine aj_aload_n (2) dX6_share_36 rfl rfl ?_
      refine aj_aload_n (3) dX6_share_37 rfl rfl ?_
      refine rV_VM (as := [.ref (p1), .ref (p2)]) (c_X6_wish w S _ _ _ _) mv_X6_wish rfl zg_1061 (by decide) (Nat.le_of_ble_eq_true rfl) dX6_share_38 (fun M4 => ?_)
      refine aj_aload_n (1) dX6_share_41 rfl rfl ?_
      refine aj_aload_n (3) dX6_share_42 rfl rfl ?_
      refine aj_iload (0) dX6_share_43 rfl ?_
      refine rV_VM (as := [.ref (p2), .int (v3)]) (c_X6_closeRing w S _ _ _ _) mv_X6_closeRing rfl zg_1072 (by decide) (Nat.le_of_ble_eq_true rfl) dX6_share_45 (fun M5 => ?_)
      refine aj_iinc (j := 4) (v := (x3 + (1 : Int32))) (ls2 := [(3, .int ((x3 + (1 : Int32)))), (4, .int (v3)), (0, .ref (p0)), (1, .ref (p1)), (2, .ref (p2))]) dX6_share_48 rfl rfl (Nat.le_of_ble_eq_true rfl) rfl ?_
      refine aj_goto (tgt := 10) dX6_share_51 (by decide) ?_
      refine AJ.sub [2, 3, 4, 0] rfl ?_
      exact ih (p0) (p1) (p2) ((x3 + (1 : Int32))) M5
    exact aj_vret dX6_share_34 rfl rfl
def gX6_share (S : List (Nat × Nat)) (p0 : Nat) (p1 : Nat) (p2 : Nat) (M : zM) : Option zM := zgR S M (p0) 6 3 0 (fun r1 => zrc S (r1) 5 1 ((gX5_fill S (r1) ((-1 : Int32)) M).bind (fun M2 => gX6_share_10 S zfu (p0) (p1) (p2) ((0 : Int32)) M2)))
set_option maxHeartbeats 4000000 in
set_option maxRecDepth 100000 in
theorem c_X6_share (w : zWd) (S : List (Nat × Nat)) (p0 : Nat) (p1 : Nat) (p2 : Nat) (M : zM) : CT (zfVM S) w 4 mX6_share [.ref (p0), .ref (p1), .ref (p2)] (S, M) (gX6_share S p0 p1 p2 M) := by
  refine CT.of (by decide) (Nat.le_of_ble_eq_true rfl) ?_
  show AJ _ _ _ _ 0 [(0, .ref (p0)), (1, .ref (p1)), (2, .ref (p2))] [] _ _
  unfold gX6_share
  refine aj_aload_n (0) dX6_share_0 rfl rfl ?_
  refine aj_getR (TX := TX6) zc6 (by decide) rfl (Or.inl zg_505) dX6_share_1 (fun r1 => ?_)
  refine aj_iconst (v := (-1 : Int32)) dX6_share_4 (by decide) ?_
  refine rV_VM (as := [.int ((-1 : Int32))]) (c_X5_fill w S _ _ _) mv_X5_fill rfl zg_1055 (by decide) (Nat.le_of_ble_eq_true rfl) dX6_share_5 (fun M2 => ?_)
  refine aj_iconst (v := (0 : Int32)) dX6_share_8 (by decide) ?_
  refine aj_istore_n (ls2 := [(3, .int ((0 : Int32))), (0, .ref (p0)), (1, .ref (p1)), (2, .ref (p2))]) dX6_share_9 rfl (Nat.le_of_ble_eq_true rfl) rfl ?_
  refine AJ.sub [1, 2, 3, 0] rfl ?_
  exact t_X6_share_10 w S zfu (p0) (p1) (p2) ((0 : Int32)) M2
def gX6_changers_83 (S : List (Nat × Nat)) (k20 : Nat → Nat → Int32 → Int32 → Int32 → zM → Option Int32) (p1 : Nat) (p2 : Nat) (x3 : Int32) (x4 : Int32) (x5 : Int32) (x6 : Int32) (x0s : Int32) (M : zM) : Option Int32 := (if x6 = 0 then k20 (p1) (p2) (x3) (x4) ((x5 + (1 : Int32))) M else (if x0s = 0 then k20 (p1) (p2) (x3) (x4) ((x5 + (1 : Int32))) M else k20 (p1) (p2) ((x3 + (1 : Int32))) (x4) ((x5 + (1 : Int32))) M))
set_option maxHeartbeats 4000000 in
set_option maxRecDepth 100000 in
theorem t_X6_changers_83 (w : zWd) (S : List (Nat × Nat)) (k20 : Nat → Nat → Int32 → Int32 → Int32 → zM → Option Int32) (hk20 : ∀ (p1 : Nat) (p2 : Nat) (x3 : Int32) (x4 : Int32) (x5 : Int32) (M : zM), AJ (zfI S M) w 3 mX6_changers 20 [(1, .ref (p1)), (2, .ref (p2)), (3, .int (x3)), (4, .int (x4)), (5, .int (x5))] [] (S, M) (k20 p1 p2 x3 x4 x5 M)) (p1 : Nat) (p2 : Nat) (x3 : Int32) (x4 : Int32) (x5 : Int32) (x6 : Int32) (x0s : Int32) (M : zM) : AJ (zfI S M) w 3 mX6_changers 83 [(1, .ref (p1)), (2, .ref (p2)), (3, .int (x3)), (4, .int (x4)), (5, .int (x5)), (6, .int (x6))] [.int (x0s)] (S, M) (gX6_changers_83 S k20 p1 p2 x3 x4 x5 x6 x0s M) := by
  unfold gX6_changers_83
  refine aj_istore (ls2 := [(7, .int (x0s)), (1, .ref (p1)), (2, .ref (p2)), (3, .int (x3)), (4, .int (x4)), (5, .int (x5)), (6, .int (x6))]) dX6_changers_83 (Nat.le_of_ble_eq_true rfl) rfl ?_
  refine aj_iload (6) dX6_changers_85 rfl ?_
  refine aj_if_eq (tgt := 98) dX6_changers_87 (by decide) (fun h => ?_) (fun h => ?_)
  · refine aj_iinc (j := 5) (v := (x5 + (1 : Int32))) (ls2 := [(5, .int ((x5 + (1 : Int32)))), (7, .int (x0s)), (1, .ref (p1)), (2, .ref (p2)), (3, .int (x3)), (4, .int (x4)), (6, .int (x6))]) dX6_changers_98 rfl rfl (Nat.le_of_ble_eq_true rfl) rfl ?_
    refine aj_goto (tgt := 20) dX6_changers_101 (by decide) ?_
    refine AJ.sub [2, 3, 4, 5, 0] rfl ?_
    exact hk20 (p1) (p2) (x3) (x4) ((x5 + (1 : Int32))) M
  refine aj_iload (0) dX6_changers_90 rfl ?_
  refine aj_if_eq (tgt := 98) dX6_changers_92 (by decide) (fun h => ?_) (fun h => ?_)
  · refine aj_iinc (j := 5) (v := (x5 + (1 : Int32))) (ls2 := [(5, .int ((x5 + (1 : Int32)))), (7, .int (x0s)), (1, .ref (p1)), (2, .ref (p2)), (3, .int (x3)), (4, .int (x4)), (6, .int (x6))]) dX6_changers_98 rfl rfl (Nat.le_of_ble_eq_true rfl) rfl ?_
    refine aj_goto (tgt := 20) dX6_changers_101 (by decide) ?_
    refine AJ.sub [2, 3, 4, 5, 0] rfl ?_
    exact hk20 (p1) (p2) (x3) (x4) ((x5 + (1 : Int32))) M
  refine aj_iinc (j := 3) (v := (x3 + (1 : Int32))) (ls2 := [(3, .int ((x3 + (1 : Int32)))), (7, .int (x0s)), (1, .ref (p1)), (2, .ref (p2)), (4, .int (x4)), (5, .int (x5)), (6, .int (x6))]) dX6_changers_95 rfl rfl (Nat.le_of_ble_eq_true rfl) rfl ?_
  refine aj_iinc (j := 5) (v := (x5 + (1 : Int32))) (ls2 := [(5, .int ((x5 + (1 : Int32)))), (3, .int ((x3 + (1 : Int32)))), (7, .int (x0s)), (1, .ref (p1)), (2, .ref (p2)), (4, .int (x4)), (6, .int (x6))]) dX6_changers_98 rfl rfl (Nat.le_of_ble_eq_true rfl) rfl ?_
  refine aj_goto (tgt := 20) dX6_changers_101 (by decide) ?_
  refine AJ.sub [3, 4, 1, 5, 0] rfl ?_
  exact hk20 (p1) (p2) ((x3 + (1 : Int32))) (x4) ((x5 + (1 : Int32))) M
def gX6_changers_55 (S : List (Nat × Nat)) (k20 : Nat → Nat → Int32 → Int32 → Int32 → zM → Option Int32) (p1 : Nat) (p2 : Nat) (x3 : Int32) (x4 : Int32) (x5 : Int32) (x0s : Int32) (M : zM) : Option Int32 := (gX6_apart S (p1) (p2) (x5) (x4) M).bind (fun v1 => (gX6_apart S (p1) (p2) (x5) (x5) M).bind (fun v2 => (if v2 ≤ v1 then gX6_changers_83 S k20 (p1) (p2) (x3) (x4) (x5) (x0s) ((0 : Int32)) M else gX6_changers_83 S k20 (p1) (p2) (x3) (x4) (x5) (x0s) ((1 : Int32)) M)))
set_option maxHeartbeats 4000000 in
set_option maxRecDepth 100000 in
theorem t_X6_changers_55 (w : zWd) (S : List (Nat × Nat)) (k20 : Nat → Nat → Int32 → Int32 → Int32 → zM → Option Int32) (hk20 : ∀ (p1 : Nat) (p2 : Nat) (x3 : Int32) (x4 : Int32) (x5 : Int32) (M : zM), AJ (zfI S M) w 3 mX6_changers 20 [(1, .ref (p1)), (2, .ref (p2)), (3, .int (x3)), (4, .int (x4)), (5, .int (x5))] [] (S, M) (k20 p1 p2 x3 x4 x5 M)) (p1 : Nat) (p2 : Nat) (x3 : Int32) (x4 : Int32) (x5 : Int32) (x0s : Int32) (M : zM) : AJ (zfI S M) w 3 mX6_changers 55 [(1, .ref (p1)), (2, .ref (p2)), (3, .int (x3)), (4, .int (x4)), (5, .int (x5))] [.int (x0s)] (S, M) (gX6_changers_55 S k20 p1 p2 x3 x4 x5 x0s M) := by
  unfold gX6_changers_55
  refine aj_istore (ls2 := [(6, .int (x0s)), (1, .ref (p1)), (2, .ref (p2)), (3, .int (x3)), (4, .int (x4)), (5, .int (x5))]) dX6_changers_55 (Nat.le_of_ble_eq_true rfl) rfl ?_
  refine aj_aload_n (1) dX6_changers_57 rfl rfl ?_
  refine aj_aload_n (2) dX6_changers_58 rfl rfl ?_
  refine aj_iload (5) dX6_changers_59 rfl ?_
  refine aj_iload (4) dX6_changers_61 rfl ?_
  refine rS_I (as := [.ref (p1), .ref (p2), .int (x5), .int (x4)]) (c_X6_apart w S _ _ _ _ _) ms_X6_apart rfl zg_1065 (by decide) (Nat.le_of_ble_eq_true rfl) dX6_changers_63 (fun v1 => ?_)
  refine aj_aload_n (1) dX6_changers_66 rfl rfl ?_
  refine aj_aload_n (2) dX6_changers_67 rfl rfl ?_
  refine aj_iload (5) dX6_changers_68 rfl ?_
  refine aj_iload (5) dX6_changers_70 rfl ?_
  refine rS_I (as := [.ref (p1), .ref (p2), .int (x5), .int (x5)]) (c_X6_apart w S _ _ _ _ _) ms_X6_apart rfl zg_1065 (by decide) (Nat.le_of_ble_eq_true rfl) dX6_changers_72 (fun v2 => ?_)
  refine aj_icmp_ge (tgt := 82) dX6_changers_75 (by decide) (fun h => ?_) (fun h => ?_)
  · refine aj_iconst (v := (0 : Int32)) dX6_changers_82 (by decide) ?_
    refine AJ.sub [1, 2, 3, 4, 5, 0] rfl ?_
    exact t_X6_changers_83 w S k20 hk20 (p1) (p2) (x3) (x4) (x5) (x0s) ((0 : Int32)) M
  refine aj_iconst (v := (1 : Int32)) dX6_changers_78 (by decide) ?_
  refine aj_goto (tgt := 83) dX6_changers_79 (by decide) ?_
  refine AJ.sub [1, 2, 3, 4, 5, 0] rfl ?_
  exact t_X6_changers_83 w S k20 hk20 (p1) (p2) (x3) (x4) (x5) (x0s) ((1 : Int32)) M
def gX6_changers_20 (S : List (Nat × Nat)) (k5 : Nat → Nat → Int32 → Int32 → zM → Option Int32) : Nat → Nat → Nat → Int32 → Int32 → Int32 → zM → Option Int32
  | 0 => fun _ _ _ _ _ _ => none
  | n + 1 => fun p1 p2 x3 x4 x5 M => zgI S M (p2) 7 15 10 (fun v1 => (if v1 ≤ x5 then k5 (p1) (p2) (x3) ((x4 + (1 : Int32))) M else (gX6_apart S (p1) (p2) (x4) (x5) M).bind (fun v2 => (gX6_apart S (p1) (p2) (x4) (x4) M).bind (fun v3 => (if v3 ≤ v2 then gX6_changers_55 S (gX6_changers_20 S  k5 n) (p1) (p2) (x3) (x4) (x5) ((0 : Int32)) M else gX6_changers_55 S (gX6_changers_20 S  k5 n) (p1) (p2) (x3) (x4) (x5) ((1 : Int32)) M)))))
set_option maxHeartbeats 4000000 in
set_option maxRecDepth 100000 in
theorem t_X6_changers_20 (w : zWd) (S : List (Nat × Nat)) (k5 : Nat → Nat → Int32 → Int32 → zM → Option Int32) (hk5 : ∀ (p1 : Nat) (p2 : Nat) (x3 : Int32) (x4 : Int32) (M : zM), AJ (zfI S M) w 3 mX6_changers 5 [(1, .ref (p1)), (2, .ref (p2)), (3, .int (x3)), (4, .int (x4))] [] (S, M) (k5 p1 p2 x3 x4 M)) (fu : Nat) : ∀ (p1 : Nat) (p2 : Nat) (x3 : Int32) (x4 : Int32) (x5 : Int32) (M : zM), AJ (zfI S M) w 3 mX6_changers 20 [(1, .ref (p1)), (2, .ref (p2)), (3, .int (x3)), (4, .int (x4)), (5, .int (x5))] [] (S, M) (gX6_changers_20 S k5 fu p1 p2 x3 x4 x5 M) := by
  induction fu with
  | zero => intro p1 p2 x3 x4 x5 M; exact AJ.none
  | succ n ih =>
    intro p1 p2 x3 x4 x5 M
    unfold gX6_changers_20
    refine aj_iload (4) dX6_changers_20 rfl ?_
    refine aj_aload_n (1) dX6_changers_22 rfl rfl ?_
    refine r_getI (TX := TX7) zc7 (by decide) rfl (Or.inr ⟨_, zn_359⟩) dX6_changers_23 (fun v1 => ?_)
    refine aj_icmp_ge (tgt := 104) dX6_changers_26 (by decide) (fun h => ?_) (fun h => ?_)
    · refine aj_iinc (j := 3) (v := (x4 + (1 : Int32))) (ls2 := [(4, .int ((x4 + (1 : Int32)))), (1, .ref (p1)), (2, .ref (p2)), (3, .int (x3)), (5, .int (x5))]) dX6_changers_104 rfl rfl (Nat.le_of_ble_eq_true rfl) rfl ?_
      refine aj_goto (tgt := 5) dX6_changers_107 (by decide) ?_
      refine AJ.sub [1, 2, 3, 0] rfl ?_
      exact hk5 (p1) (p2) (x3) ((x4 + (1 : Int32))) M
    refine aj_aload_n (0) dX6_changers_29 rfl rfl ?_
    refine aj_aload_n (1) dX6_changers_30 rfl rfl ?_
    refine aj_iload (3) dX6_changers_31 rfl ?_
    refine aj_iload (4) dX6_changers_33 rfl ?_
    refine rS_I (as := [.ref (p1), .ref (p2), .int (x4), .int (x5)]) (c_X6_apart w S _ _ _ _ _) ms_X6_apart rfl zg_1065 (by decide) (Nat.le_of_ble_eq_true rfl) dX6_changers_35 (fun v2 => ?_)
    refine aj_aload_n (0) dX6_changers_38 rfl rfl ?_
    refine aj_aload_n (1) dX6_changers_39 rfl rfl ?_
    refine aj_iload (3) dX6_changers_40 rfl ?_
    refine aj_iload (3) dX6_changers_42 rfl ?_
    refine rS_I (as := [.ref (p1), .ref (p2), .int (x4), .int (x4)]) (c_X6_apart w S _ _ _ _ _) ms_X6_apart rfl zg_1065 (by decide) (Nat.le_of_ble_eq_true rfl) dX6_changers_44 (fun v3 => ?_)
    refine aj_icmp_ge (tgt := 54) dX6_changers_47 (by decide) (fun h => ?_) (fun h => ?_)
    · refine aj_iconst (v := (0 : Int32)) dX6_changers_54 (by decide) ?_
      refine AJ.sub [0, 1, 2, 3, 4] rfl ?_
      exact t_X6_changers_55 w S (gX6_changers_20 S  k5 n) ih (p1) (p2) (x3) (x4) (x5) ((0 : Int32)) M
    refine aj_iconst (v := (1 : Int32)) dX6_changers_50 (by decide) ?_
    refine aj_goto (tgt := 55) dX6_changers_51 (by decide) ?_
    refine AJ.sub [0, 1, 2, 3, 4] rfl ?_
    exact t_X6_changers_55 w S (gX6_changers_20 S  k5 n) ih (p1) (p2) (x3) (x4) (x5) ((1 : Int32)) M
def gX6_changers_5 (S : List (Nat × Nat)) : Nat → Nat → Nat → Int32 → Int32 → zM → Option Int32
  | 0 => fun _ _ _ _ _ => none
  | n + 1 => fun p1 p2 x3 x4 M => zgI S M (p2) 7 15 10 (fun v1 => (if v1 ≤ x4 then some (x3) else gX6_changers_20 S (gX6_changers_5 S   n) zfu (p1) (p2) (x3) (x4) ((x4 + (1 : Int32))) M))
set_option maxHeartbeats 4000000 in
set_option maxRecDepth 100000 in
theorem t_X6_changers_5 (w : zWd) (S : List (Nat × Nat)) (fu : Nat) : ∀ (p1 : Nat) (p2 : Nat) (x3 : Int32) (x4 : Int32) (M : zM), AJ (zfI S M) w 3 mX6_changers 5 [(1, .ref (p1)), (2, .ref (p2)), (3, .int (x3)), (4, .int (x4))] [] (S, M) (gX6_changers_5 S fu p1 p2 x3 x4 M) := by
  induction fu with
  | zero => intro p1 p2 x3 x4 M; exact AJ.none
  | succ n ih =>
    intro p1 p2 x3 x4 M
    unfold gX6_changers_5
    refine aj_iload (3) dX6_changers_5 rfl ?_
    refine aj_aload_n (1) dX6_changers_7 rfl rfl ?_
    refine r_getI (TX := TX7) zc7 (by decide) rfl (Or.inr ⟨_, zn_359⟩) dX6_changers_8 (fun v1 => ?_)
    refine aj_icmp_ge (tgt := 110) dX6_changers_11 (by decide) (fun h => ?_) (fun h => ?_)
    · refine aj_iload_n (2) dX6_changers_110 rfl rfl ?_
      exact aj_iret dX6_changers_111 rfl rfl rfl
    refine aj_iload (3) dX6_changers_14 rfl ?_
    refine aj_iconst (v := (1 : Int32)) dX6_changers_16 (by decide) ?_
    refine aj_iadd dX6_changers_17 ?_
    refine aj_istore (ls2 := [(5, .int ((x4 + (1 : Int32)))), (1, .ref (p1)), (2, .ref (p2)), (3, .int (x3)), (4, .int (x4))]) dX6_changers_18 (Nat.le_of_ble_eq_true rfl) rfl ?_
    refine AJ.sub [1, 2, 3, 4, 0] rfl ?_
    exact t_X6_changers_20 w S (gX6_changers_5 S   n) ih zfu (p1) (p2) (x3) (x4) ((x4 + (1 : Int32))) M
def gX6_changers (S : List (Nat × Nat)) (p0 : Nat) (p1 : Nat) (p2 : Nat) (M : zM) : Option Int32 := gX6_changers_5 S zfu (p1) (p2) ((0 : Int32)) ((0 : Int32)) M
set_option maxHeartbeats 4000000 in
set_option maxRecDepth 100000 in
theorem c_X6_changers (w : zWd) (S : List (Nat × Nat)) (p0 : Nat) (p1 : Nat) (p2 : Nat) (M : zM) : CT (zfI S M) w 3 mX6_changers [.ref (p0), .ref (p1), .ref (p2)] (S, M) (gX6_changers S p0 p1 p2 M) := by
  refine CT.of (by decide) (Nat.le_of_ble_eq_true rfl) ?_
  show AJ _ _ _ _ 0 [(0, .ref (p0)), (1, .ref (p1)), (2, .ref (p2))] [] _ _
  unfold gX6_changers
  refine aj_iconst (v := (0 : Int32)) dX6_changers_0 (by decide) ?_
  refine aj_istore_n (ls2 := [(3, .int ((0 : Int32))), (0, .ref (p0)), (1, .ref (p1)), (2, .ref (p2))]) dX6_changers_1 rfl (Nat.le_of_ble_eq_true rfl) rfl ?_
  refine aj_iconst (v := (0 : Int32)) dX6_changers_2 (by decide) ?_
  refine aj_istore (ls2 := [(4, .int ((0 : Int32))), (3, .int ((0 : Int32))), (0, .ref (p0)), (1, .ref (p1)), (2, .ref (p2))]) dX6_changers_3 (Nat.le_of_ble_eq_true rfl) rfl ?_
  refine AJ.sub [3, 4, 1, 0] rfl ?_
  exact t_X6_changers_5 w S zfu (p1) (p2) ((0 : Int32)) ((0 : Int32)) M
def gX6_weigh_2 (S : List (Nat × Nat)) : Nat → Nat → Nat → Nat → Int32 → zM → Option zM
  | 0 => fun _ _ _ _ _ => none
  | n + 1 => fun p0 p1 p2 x3 M => zgI S M (p1) 10 18 1 (fun v1 => (if v1 ≤ x3 then some M else zgR S M (p0) 6 3 2 (fun r2 => zrc S (p2) 7 15 ((gX7_placesOf S (p2) (x3) M).bind (fun v3 => zrc S (r2) 5 1 ((gX5_set S (r2) (x3) (v3) M).bind (fun M4 => (gX6_weigh_2 S   n) (p0) (p1) (p2) ((x3 + (1 : Int32))) M4)))))))
set_option maxHeartbeats 4000000 in
set_option maxRecDepth 100000 in
theorem t_X6_weigh_2 (w : zWd) (S : List (Nat × Nat)) (fu : Nat) : ∀ (p0 : Nat) (p1 : Nat) (p2 : Nat) (x3 : Int32) (M : zM), AJ (zfVM S) w 3 mX6_weigh 2 [(0, .ref (p0)), (1, .ref (p1)), (2, .ref (p2)), (3, .int (x3))] [] (S, M) (gX6_weigh_2 S fu p0 p1 p2 x3 M) := by
  induction fu with
  | zero => intro p0 p1 p2 x3 M; exact AJ.none
  | succ n ih =>
    intro p0 p1 p2 x3 M
    unfold gX6_weigh_2
    refine aj_iload_n (3) dX6_weigh_2 rfl rfl ?_
    refine aj_aload_n (1) dX6_weigh_3 rfl rfl ?_
    refine r_getI (TX := TX10) zc10 (by decide) rfl (Or.inr ⟨_, zn_185⟩) dX6_weigh_4 (fun v1 => ?_)
    refine aj_icmp_ge (tgt := 29) dX6_weigh_7 (by decide) (fun h => ?_) (fun h => ?_)
    · exact aj_vret dX6_weigh_29 rfl rfl
    refine aj_aload_n (0) dX6_weigh_10 rfl rfl ?_
    refine aj_getR (TX := TX6) zc6 (by decide) rfl (Or.inl zg_508) dX6_weigh_11 (fun r2 => ?_)
    refine aj_iload_n (3) dX6_weigh_14 rfl rfl ?_
    refine aj_aload_n (2) dX6_weigh_15 rfl rfl ?_
    refine aj_iload_n (3) dX6_weigh_16 rfl rfl ?_
    refine rV_I (as := [.int (x3)]) (c_X7_placesOf w S _ _ _) mv_X7_placesOf rfl zg_1092 (by decide) (Nat.le_of_ble_eq_true rfl) dX6_weigh_17 (fun v3 => ?_)
    refine rV_VM (as := [.int (x3), .int (v3)]) (c_X5_set w S _ _ _ _) mv_X5_set rfl zg_1071 (by decide) (Nat.le_of_ble_eq_true rfl) dX6_weigh_20 (fun M4 => ?_)
    refine aj_iinc (j := 3) (v := (x3 + (1 : Int32))) (ls2 := [(3, .int ((x3 + (1 : Int32)))), (0, .ref (p0)), (1, .ref (p1)), (2, .ref (p2))]) dX6_weigh_23 rfl rfl (Nat.le_of_ble_eq_true rfl) rfl ?_
    refine aj_goto (tgt := 2) dX6_weigh_26 (by decide) ?_
    refine AJ.sub [1, 2, 3, 0] rfl ?_
    exact ih (p0) (p1) (p2) ((x3 + (1 : Int32))) M4
def gX6_weigh (S : List (Nat × Nat)) (p0 : Nat) (p1 : Nat) (p2 : Nat) (M : zM) : Option zM := gX6_weigh_2 S zfu (p0) (p1) (p2) ((0 : Int32)) M
set_option maxHeartbeats 4000000 in
set_option maxRecDepth 100000 in
theorem c_X6_weigh (w : zWd) (S : List (Nat × Nat)) (p0 : Nat) (p1 : Nat) (p2 : Nat) (M : zM) : CT (zfVM S) w 3 mX6_weigh [.ref (p0), .ref (p1), .ref (p2)] (S, M) (gX6_weigh S p0 p1 p2 M) := by
  refine CT.of (by decide) (Nat.le_of_ble_eq_true rfl) ?_
  show AJ _ _ _ _ 0 [(0, .ref (p0)), (1, .ref (p1)), (2, .ref (p2))] [] _ _
  unfold gX6_weigh
  refine aj_iconst (v := (0 : Int32)) dX6_weigh_0 (by decide) ?_
  refine aj_istore_n (ls2 := [(3, .int ((0 : Int32))), (0, .ref (p0)), (1, .ref (p1)), (2, .ref (p2))]) dX6_weigh_1 rfl (Nat.le_of_ble_eq_true rfl) rfl ?_
  refine AJ.sub [1, 2, 3, 0] rfl ?_
  exact t_X6_weigh_2 w S zfu (p0) (p1) (p2) ((0 : Int32)) M
def gX6_weightOf_4 (S : List (Nat × Nat)) : Nat → Nat → Int32 → Int32 → Int32 → zM → Option Int32
  | 0 => fun _ _ _ _ _ => none
  | n + 1 => fun p0 x1 x2 x3 M => (if (6 : Int32) ≤ x3 then some (x2) else (if ((x1 >>> (x3 &&& 31)) &&& (1 : Int32)) = (1 : Int32) then zgR S M (p0) 6 3 2 (fun r1 => zrc S (r1) 5 1 ((gX5_get S (r1) (x3) M).bind (fun v2 => (gX6_weightOf_4 S   n) (p0) (x1) ((x2 + v2)) ((x3 + (1 : Int32))) M))) else (gX6_weightOf_4 S   n) (p0) (x1) ((x2 + (0 : Int32))) ((x3 + (1 : Int32))) M))
set_option maxHeartbeats 4000000 in
set_option maxRecDepth 100000 in
theorem t_X6_weightOf_4 (w : zWd) (S : List (Nat × Nat)) (fu : Nat) : ∀ (p0 : Nat) (x1 : Int32) (x2 : Int32) (x3 : Int32) (M : zM), AJ (zfI S M) w 2 mX6_weightOf 4 [(0, .ref (p0)), (1, .int (x1)), (2, .int (x2)), (3, .int (x3))] [] (S, M) (gX6_weightOf_4 S fu p0 x1 x2 x3 M) := by
  induction fu with
  | zero => intro p0 x1 x2 x3 M; exact AJ.none
  | succ n ih =>
    intro p0 x1 x2 x3 M
    unfold gX6_weightOf_4
    refine aj_iload_n (3) dX6_weightOf_4 rfl rfl ?_
    refine aj_bipush (v := (6 : Int32)) dX6_weightOf_5 (by decide) ?_
    refine aj_icmp_ge (tgt := 40) dX6_weightOf_7 (by decide) (fun h => ?_) (fun h => ?_)
    · refine aj_iload_n (2) dX6_weightOf_40 rfl rfl ?_
      exact aj_iret dX6_weightOf_41 rfl rfl rfl
    refine aj_iload_n (2) dX6_weightOf_10 rfl rfl ?_
    refine aj_iload_n (1) dX6_weightOf_11 rfl rfl ?_
    refine aj_iload_n (3) dX6_weightOf_12 rfl rfl ?_
    refine aj_ishr dX6_weightOf_13 ?_
    refine aj_iconst (v := (1 : Int32)) dX6_weightOf_14 (by decide) ?_
    refine aj_iand dX6_weightOf_15 ?_
    refine aj_iconst (v := (1 : Int32)) dX6_weightOf_16 (by decide) ?_
    refine aj_icmp_ne (tgt := 31) dX6_weightOf_17 (by decide) (fun h => ?_) (fun h => ?_)
    · refine aj_iconst (v := (0 : Int32)) dX6_weightOf_31 (by decide) ?_
      refine aj_iadd dX6_weightOf_32 ?_
      refine aj_istore_n (ls2 := [(2, .int ((x2 + (0 : Int32)))), (0, .ref (p0)), (1, .int (x1)), (3, .int (x3))]) dX6_weightOf_33 rfl (Nat.le_of_ble_eq_true rfl) rfl ?_
      refine aj_iinc (j := 3) (v := (x3 + (1 : Int32))) (ls2 := [(3, .int ((x3 + (1 : Int32)))), (2, .int ((x2 + (0 : Int32)))), (0, .ref (p0)), (1, .int (x1))]) dX6_weightOf_34 rfl rfl (Nat.le_of_ble_eq_true rfl) rfl ?_
      refine aj_goto (tgt := 4) dX6_weightOf_37 (by decide) ?_
      refine AJ.sub [2, 3, 1, 0] rfl ?_
      exact ih (p0) (x1) ((x2 + (0 : Int32))) ((x3 + (1 : Int32))) M
    refine aj_aload_n (0) dX6_weightOf_20 rfl rfl ?_
    refine aj_getR (TX := TX6) zc6 (by decide) rfl (Or.inl zg_508) dX6_weightOf_21 (fun r1 => ?_)
    refine aj_iload_n (3) dX6_weightOf_24 rfl rfl ?_
    refine rV_I (as := [.int (x3)]) (c_X5_get w S _ _ _) mv_X5_get rfl zg_1060 (by decide) (Nat.le_of_ble_eq_true rfl) dX6_weightOf_25 (fun v2 => ?_)
    refine aj_goto (tgt := 32) dX6_weightOf_28 (by decide) ?_
    refine aj_iadd dX6_weightOf_32 ?_
    refine aj_istore_n (ls2 := [(2, .int ((x2 + v2))), (0, .ref (p0)), (1, .int (x1)), (3, .int (x3))]) dX6_weightOf_33 rfl (Nat.le_of_ble_eq_true rfl) rfl ?_
    refine aj_iinc (j := 3) (v := (x3 + (1 : Int32))) (ls2 := [(3, .int ((x3 + (1 : Int32)))), (2, .int ((x2 + v2))), (0, .ref (p0)), (1, .int (x1))]) dX6_weightOf_34 rfl rfl (Nat.le_of_ble_eq_true rfl) rfl ?_
    refine aj_goto (tgt := 4) dX6_weightOf_37 (by decide) ?_
    refine AJ.sub [2, 3, 1, 0] rfl ?_
    exact ih (p0) (x1) ((x2 + v2)) ((x3 + (1 : Int32))) M
def gX6_weightOf (S : List (Nat × Nat)) (p0 : Nat) (x1 : Int32) (M : zM) : Option Int32 := gX6_weightOf_4 S zfu (p0) (x1) ((0 : Int32)) ((0 : Int32)) M
set_option maxHeartbeats 4000000 in
set_option maxRecDepth 100000 in
theorem c_X6_weightOf (w : zWd) (S : List (Nat × Nat)) (p0 : Nat) (x1 : Int32) (M : zM) : CT (zfI S M) w 2 mX6_weightOf [.ref (p0), .int (x1)] (S, M) (gX6_weightOf S p0 x1 M) := by
  refine CT.of (by decide) (Nat.le_of_ble_eq_true rfl) ?_
  show AJ _ _ _ _ 0 [(0, .ref (p0)), (1, .int (x1))] [] _ _
  unfold gX6_weightOf
  refine aj_iconst (v := (0 : Int32)) dX6_weightOf_0 (by decide) ?_
  refine aj_istore_n (ls2 := [(2, .int ((0 : Int32))), (0, .ref (p0)), (1, .int (x1))]) dX6_weightOf_1 rfl (Nat.le_of_ble_eq_true rfl) rfl ?_
  refine aj_iconst (v := (0 : Int32)) dX6_weightOf_2 (by decide) ?_
  refine aj_istore_n (ls2 := [(3, .int ((0 : Int32))), (2, .int ((0 : Int32))), (0, .ref (p0)), (1, .int (x1))]) dX6_weightOf_3 rfl (Nat.le_of_ble_eq_true rfl) rfl ?_
  refine AJ.sub [2, 3, 1, 0] rfl ?_
  exact t_X6_weightOf_4 w S zfu (p0) (x1) ((0 : Int32)) ((0 : Int32)) M
def gX6_decides_37 (S : List (Nat × Nat)) (k6 : Nat → Int32 → Int32 → Int32 → Int32 → Int32 → zM → Option Int32) (p0 : Nat) (x1 : Int32) (x2 : Int32) (x3 : Int32) (x4 : Int32) (x5 : Int32) (x6 : Int32) (x0s : Int32) (M : zM) : Option Int32 := (if x0s = 0 then k6 (p0) (x1) (x2) (x3) (x4) ((x5 + (1 : Int32))) M else (if ((2 : Int32) * x6) ≤ x3 then k6 (p0) (x1) (x2) (x3) (x4) ((x5 + (1 : Int32))) M else zgR S M (p0) 6 3 2 (fun r1 => zrc S (r1) 5 1 ((gX5_get S (r1) (x1) M).bind (fun v2 => (if x3 < ((2 : Int32) * (x6 - v2)) then k6 (p0) (x1) (x2) (x3) (x4) ((x5 + (1 : Int32))) M else k6 (p0) (x1) (x2) (x3) ((x4 + (1 : Int32))) ((x5 + (1 : Int32))) M))))))
set_option maxHeartbeats 4000000 in
set_option maxRecDepth 100000 in
theorem t_X6_decides_37 (w : zWd) (S : List (Nat × Nat)) (k6 : Nat → Int32 → Int32 → Int32 → Int32 → Int32 → zM → Option Int32) (hk6 : ∀ (p0 : Nat) (x1 : Int32) (x2 : Int32) (x3 : Int32) (x4 : Int32) (x5 : Int32) (M : zM), AJ (zfI S M) w 3 mX6_decides 6 [(0, .ref (p0)), (1, .int (x1)), (2, .int (x2)), (3, .int (x3)), (4, .int (x4)), (5, .int (x5))] [] (S, M) (k6 p0 x1 x2 x3 x4 x5 M)) (p0 : Nat) (x1 : Int32) (x2 : Int32) (x3 : Int32) (x4 : Int32) (x5 : Int32) (x6 : Int32) (x0s : Int32) (M : zM) : AJ (zfI S M) w 3 mX6_decides 37 [(0, .ref (p0)), (1, .int (x1)), (2, .int (x2)), (3, .int (x3)), (4, .int (x4)), (5, .int (x5)), (6, .int (x6))] [.int (x0s)] (S, M) (gX6_decides_37 S k6 p0 x1 x2 x3 x4 x5 x6 x0s M) := by
  unfold gX6_decides_37
  refine aj_istore (ls2 := [(7, .int (x0s)), (0, .ref (p0)), (1, .int (x1)), (2, .int (x2)), (3, .int (x3)), (4, .int (x4)), (5, .int (x5)), (6, .int (x6))]) dX6_decides_37 (Nat.le_of_ble_eq_true rfl) rfl ?_
  refine aj_iload (0) dX6_decides_39 rfl ?_
  refine aj_if_eq (tgt := 72) dX6_decides_41 (by decide) (fun h => ?_) (fun h => ?_)
  · refine aj_iinc (j := 6) (v := (x5 + (1 : Int32))) (ls2 := [(5, .int ((x5 + (1 : Int32)))), (7, .int (x0s)), (0, .ref (p0)), (1, .int (x1)), (2, .int (x2)), (3, .int (x3)), (4, .int (x4)), (6, .int (x6))]) dX6_decides_72 rfl rfl (Nat.le_of_ble_eq_true rfl) rfl ?_
    refine aj_goto (tgt := 6) dX6_decides_75 (by decide) ?_
    refine AJ.sub [2, 3, 4, 5, 6, 0] rfl ?_
    exact hk6 (p0) (x1) (x2) (x3) (x4) ((x5 + (1 : Int32))) M
  refine aj_iconst (v := (2 : Int32)) dX6_decides_44 (by decide) ?_
  refine aj_iload (7) dX6_decides_45 rfl ?_
  refine aj_imul dX6_decides_47 ?_
  refine aj_iload_n (4) dX6_decides_48 rfl rfl ?_
  refine aj_icmp_le (tgt := 72) dX6_decides_49 (by decide) (fun h => ?_) (fun h => ?_)
  · refine aj_iinc (j := 6) (v := (x5 + (1 : Int32))) (ls2 := [(5, .int ((x5 + (1 : Int32)))), (7, .int (x0s)), (0, .ref (p0)), (1, .int (x1)), (2, .int (x2)), (3, .int (x3)), (4, .int (x4)), (6, .int (x6))]) dX6_decides_72 rfl rfl (Nat.le_of_ble_eq_true rfl) rfl ?_
    refine aj_goto (tgt := 6) dX6_decides_75 (by decide) ?_
    refine AJ.sub [2, 3, 4, 5, 6, 0] rfl ?_
    exact hk6 (p0) (x1) (x2) (x3) (x4) ((x5 + (1 : Int32))) M
  refine aj_iconst (v := (2 : Int32)) dX6_decides_52 (by decide) ?_
  refine aj_iload (7) dX6_decides_53 rfl ?_
  refine aj_aload_n (1) dX6_decides_55 rfl rfl ?_
  refine aj_getR (TX := TX6) zc6 (by decide) rfl (Or.inl zg_508) dX6_decides_56 (fun r1 => ?_)
  refine aj_iload_n (2) dX6_decides_59 rfl rfl ?_
  refine rV_I (as := [.int (x1)]) (c_X5_get w S _ _ _) mv_X5_get rfl zg_1060 (by decide) (Nat.le_of_ble_eq_true rfl) dX6_decides_60 (fun v2 => ?_)
  refine aj_isub dX6_decides_63 ?_
  refine aj_imul dX6_decides_64 ?_
  refine aj_iload_n (4) dX6_decides_65 rfl rfl ?_
  refine aj_icmp_gt (tgt := 72) dX6_decides_66 (by decide) (fun h => ?_) (fun h => ?_)
  · refine aj_iinc (j := 6) (v := (x5 + (1 : Int32))) (ls2 := [(5, .int ((x5 + (1 : Int32)))), (7, .int (x0s)), (0, .ref (p0)), (1, .int (x1)), (2, .int (x2)), (3, .int (x3)), (4, .int (x4)), (6, .int (x6))]) dX6_decides_72 rfl rfl (Nat.le_of_ble_eq_true rfl) rfl ?_
    refine aj_goto (tgt := 6) dX6_decides_75 (by decide) ?_
    refine AJ.sub [2, 3, 4, 5, 6, 0] rfl ?_
    exact hk6 (p0) (x1) (x2) (x3) (x4) ((x5 + (1 : Int32))) M
  refine aj_iinc (j := 5) (v := (x4 + (1 : Int32))) (ls2 := [(4, .int ((x4 + (1 : Int32)))), (7, .int (x0s)), (0, .ref (p0)), (1, .int (x1)), (2, .int (x2)), (3, .int (x3)), (5, .int (x5)), (6, .int (x6))]) dX6_decides_69 rfl rfl (Nat.le_of_ble_eq_true rfl) rfl ?_
  refine aj_iinc (j := 6) (v := (x5 + (1 : Int32))) (ls2 := [(5, .int ((x5 + (1 : Int32)))), (4, .int ((x4 + (1 : Int32)))), (7, .int (x0s)), (0, .ref (p0)), (1, .int (x1)), (2, .int (x2)), (3, .int (x3)), (6, .int (x6))]) dX6_decides_72 rfl rfl (Nat.le_of_ble_eq_true rfl) rfl ?_
  refine aj_goto (tgt := 6) dX6_decides_75 (by decide) ?_
  refine AJ.sub [3, 4, 5, 6, 1, 0] rfl ?_
  exact hk6 (p0) (x1) (x2) (x3) ((x4 + (1 : Int32))) ((x5 + (1 : Int32))) M
def gX6_decides_6 (S : List (Nat × Nat)) : Nat → Nat → Int32 → Int32 → Int32 → Int32 → Int32 → zM → Option Int32
  | 0 => fun _ _ _ _ _ _ _ => none
  | n + 1 => fun p0 x1 x2 x3 x4 x5 M => (if ((1 : Int32) <<< (x2 &&& 31)) ≤ x5 then some (x4) else zrc S (p0) 6 3 ((gX6_weightOf S (p0) (x5) M).bind (fun v1 => (if ((x5 >>> (x1 &&& 31)) &&& (1 : Int32)) = (1 : Int32) then gX6_decides_37 S (gX6_decides_6 S   n) (p0) (x1) (x2) (x3) (x4) (x5) (v1) ((1 : Int32)) M else gX6_decides_37 S (gX6_decides_6 S   n) (p0) (x1) (x2) (x3) (x4) (x5) (v1) ((0 : Int32)) M))))
set_option maxHeartbeats 4000000 in
set_option maxRecDepth 100000 in
theorem t_X6_decides_6 (w : zWd) (S : List (Nat × Nat)) (fu : Nat) : ∀ (p0 : Nat) (x1 : Int32) (x2 : Int32) (x3 : Int32) (x4 : Int32) (x5 : Int32) (M : zM), AJ (zfI S M) w 3 mX6_decides 6 [(0, .ref (p0)), (1, .int (x1)), (2, .int (x2)), (3, .int (x3)), (4, .int (x4)), (5, .int (x5))] [] (S, M) (gX6_decides_6 S fu p0 x1 x2 x3 x4 x5 M) := by
  induction fu with
  | zero => intro p0 x1 x2 x3 x4 x5 M; exact AJ.none
  | succ n ih =>
    intro p0 x1 x2 x3 x4 x5 M
    unfold gX6_decides_6
    refine aj_iload (5) dX6_decides_6 rfl ?_
    refine aj_iconst (v := (1 : Int32)) dX6_decides_8 (by decide) ?_
    refine aj_iload_n (2) dX6_decides_9 rfl rfl ?_
    refine aj_ishl dX6_decides_10 ?_
    refine aj_icmp_ge (tgt := 78) dX6_decides_11 (by decide) (fun h => ?_) (fun h => ?_)
    · refine aj_iload (4) dX6_decides_78 rfl ?_
      exact aj_iret dX6_decides_80 rfl rfl rfl
    refine aj_aload_n (0) dX6_decides_14 rfl rfl ?_
    refine aj_iload (5) dX6_decides_15 rfl ?_
    refine rV_I (as := [.int (x5)]) (c_X6_weightOf w S _ _ _) mv_X6_weightOf rfl zg_1100 (by decide) (Nat.le_of_ble_eq_true rfl) dX6_decides_17 (fun v1 => ?_)
    refine aj_istore (ls2 := [(6, .int (v1)), (0, .ref (p0)), (1, .int (x1)), (2, .int (x2)), (3, .int (x3)), (4, .int (x4)), (5, .int (x5))]) dX6_decides_20 (Nat.le_of_ble_eq_true rfl) rfl ?_
    refine aj_iload (6) dX6_decides_22 rfl ?_
    refine aj_iload_n (2) dX6_decides_24 rfl rfl ?_
    refine aj_ishr dX6_decides_25 ?_
    refine aj_iconst (v := (1 : Int32)) dX6_decides_26 (by decide) ?_
    refine aj_iand dX6_decides_27 ?_
    refine aj_iconst (v := (1 : Int32)) dX6_decides_28 (by decide) ?_
    refine aj_icmp_ne (tgt := 36) dX6_decides_29 (by decide) (fun h => ?_) (fun h => ?_)
    · refine aj_iconst (v := (0 : Int32)) dX6_decides_36 (by decide) ?_
      refine AJ.sub [1, 2, 3, 4, 5, 6, 0] rfl ?_
      exact t_X6_decides_37 w S (gX6_decides_6 S   n) ih (p0) (x1) (x2) (x3) (x4) (x5) (v1) ((0 : Int32)) M
    refine aj_iconst (v := (1 : Int32)) dX6_decides_32 (by decide) ?_
    refine aj_goto (tgt := 37) dX6_decides_33 (by decide) ?_
    refine AJ.sub [1, 2, 3, 4, 5, 6, 0] rfl ?_
    exact t_X6_decides_37 w S (gX6_decides_6 S   n) ih (p0) (x1) (x2) (x3) (x4) (x5) (v1) ((1 : Int32)) M
def gX6_decides (S : List (Nat × Nat)) (p0 : Nat) (x1 : Int32) (x2 : Int32) (x3 : Int32) (M : zM) : Option Int32 := gX6_decides_6 S zfu (p0) (x1) (x2) (x3) ((0 : Int32)) ((0 : Int32)) M
set_option maxHeartbeats 4000000 in
set_option maxRecDepth 100000 in
theorem c_X6_decides (w : zWd) (S : List (Nat × Nat)) (p0 : Nat) (x1 : Int32) (x2 : Int32) (x3 : Int32) (M : zM) : CT (zfI S M) w 3 mX6_decides [.ref (p0), .int (x1), .int (x2), .int (x3)] (S, M) (gX6_decides S p0 x1 x2 x3 M) := by
  refine CT.of (by decide) (Nat.le_of_ble_eq_true rfl) ?_
  show AJ _ _ _ _ 0 [(0, .ref (p0)), (1, .int (x1)), (2, .int (x2)), (3, .int (x3))] [] _ _
  unfold gX6_decides
  refine aj_iconst (v := (0 : Int32)) dX6_decides_0 (by decide) ?_
  refine aj_istore (ls2 := [(4, .int ((0 : Int32))), (0, .ref (p0)), (1, .int (x1)), (2, .int (x2)), (3, .int (x3))]) dX6_decides_1 (Nat.le_of_ble_eq_true rfl) rfl ?_
  refine aj_iconst (v := (0 : Int32)) dX6_decides_3 (by decide) ?_
  refine aj_istore (ls2 := [(5, .int ((0 : Int32))), (4, .int ((0 : Int32))), (0, .ref (p0)), (1, .int (x1)), (2, .int (x2)), (3, .int (x3))]) dX6_decides_4 (Nat.le_of_ble_eq_true rfl) rfl ?_
  refine AJ.sub [2, 3, 4, 5, 1, 0] rfl ?_
  exact t_X6_decides_6 w S zfu (p0) (x1) (x2) (x3) ((0 : Int32)) ((0 : Int32)) M
def gX6_canHalve_8 (S : List (Nat × Nat)) : Nat → Nat → Int32 → Int32 → Int32 → zM → Option Int32
  | 0 => fun _ _ _ _ _ => none
  | n + 1 => fun p0 x1 x2 x3 M => (if x1 < x3 then some ((0 : Int32)) else (if (x3 &&& (x1 ^^^ (-1 : Int32))) = 0 then zrc S (p0) 6 3 ((gX6_weightOf S (p0) (x3) M).bind (fun v1 => (if ((2 : Int32) * v1) = x2 then some ((1 : Int32)) else (gX6_canHalve_8 S   n) (p0) (x1) (x2) ((x3 + (1 : Int32))) M))) else (gX6_canHalve_8 S   n) (p0) (x1) (x2) ((x3 + (1 : Int32))) M))
set_option maxHeartbeats 4000000 in
set_option maxRecDepth 100000 in
theorem t_X6_canHalve_8 (w : zWd) (S : List (Nat × Nat)) (fu : Nat) : ∀ (p0 : Nat) (x1 : Int32) (x2 : Int32) (x3 : Int32) (M : zM), AJ (zfI S M) w 3 mX6_canHalve 8 [(0, .ref (p0)), (1, .int (x1)), (2, .int (x2)), (3, .int (x3))] [] (S, M) (gX6_canHalve_8 S fu p0 x1 x2 x3 M) := by
  induction fu with
  | zero => intro p0 x1 x2 x3 M; exact AJ.none
  | succ n ih =>
    intro p0 x1 x2 x3 M
    unfold gX6_canHalve_8
    refine aj_iload_n (3) dX6_canHalve_8 rfl rfl ?_
    refine aj_iload_n (1) dX6_canHalve_9 rfl rfl ?_
    refine aj_icmp_gt (tgt := 40) dX6_canHalve_10 (by decide) (fun h => ?_) (fun h => ?_)
    · refine aj_iconst (v := (0 : Int32)) dX6_canHalve_40 (by decide) ?_
      exact aj_iret dX6_canHalve_41 rfl (by decide +kernel) rfl
    refine aj_iload_n (3) dX6_canHalve_13 rfl rfl ?_
    refine aj_iload_n (1) dX6_canHalve_14 rfl rfl ?_
    refine aj_iconst (v := (-1 : Int32)) dX6_canHalve_15 (by decide) ?_
    refine aj_ixor dX6_canHalve_16 ?_
    refine aj_iand dX6_canHalve_17 ?_
    refine aj_if_ne (tgt := 34) dX6_canHalve_18 (by decide) (fun h => ?_) (fun h => ?_)
    · refine aj_iinc (j := 3) (v := (x3 + (1 : Int32))) (ls2 := [(3, .int ((x3 + (1 : Int32)))), (0, .ref (p0)), (1, .int (x1)), (2, .int (x2))]) dX6_canHalve_34 rfl rfl (Nat.le_of_ble_eq_true rfl) rfl ?_
      refine aj_goto (tgt := 8) dX6_canHalve_37 (by decide) ?_
      refine AJ.sub [1, 2, 3, 0] rfl ?_
      exact ih (p0) (x1) (x2) ((x3 + (1 : Int32))) M
    refine aj_iconst (v := (2 : Int32)) dX6_canHalve_21 (by decide) ?_
    refine aj_aload_n (0) dX6_canHalve_22 rfl rfl ?_
    refine aj_iload_n (3) dX6_canHalve_23 rfl rfl ?_
    refine rV_I (as := [.int (x3)]) (c_X6_weightOf w S _ _ _) mv_X6_weightOf rfl zg_1100 (by decide) (Nat.le_of_ble_eq_true rfl) dX6_canHalve_24 (fun v1 => ?_)
    refine aj_imul dX6_canHalve_27 ?_
    refine aj_iload_n (2) dX6_canHalve_28 rfl rfl ?_
    refine aj_icmp_ne (tgt := 34) dX6_canHalve_29 (by decide) (fun h => ?_) (fun h => ?_)
    · refine aj_iinc (j := 3) (v := (x3 + (1 : Int32))) (ls2 := [(3, .int ((x3 + (1 : Int32)))), (0, .ref (p0)), (1, .int (x1)), (2, .int (x2))]) dX6_canHalve_34 rfl rfl (Nat.le_of_ble_eq_true rfl) rfl ?_
      refine aj_goto (tgt := 8) dX6_canHalve_37 (by decide) ?_
      refine AJ.sub [1, 2, 3, 0] rfl ?_
      exact ih (p0) (x1) (x2) ((x3 + (1 : Int32))) M
    refine aj_iconst (v := (1 : Int32)) dX6_canHalve_32 (by decide) ?_
    exact aj_iret dX6_canHalve_33 rfl (by decide +kernel) rfl
def gX6_canHalve (S : List (Nat × Nat)) (p0 : Nat) (x1 : Int32) (M : zM) : Option Int32 := zrc S (p0) 6 3 ((gX6_weightOf S (p0) (x1) M).bind (fun v1 => gX6_canHalve_8 S zfu (p0) (x1) (v1) ((0 : Int32)) M))
set_option maxHeartbeats 4000000 in
set_option maxRecDepth 100000 in
theorem c_X6_canHalve (w : zWd) (S : List (Nat × Nat)) (p0 : Nat) (x1 : Int32) (M : zM) : CT (zfI S M) w 3 mX6_canHalve [.ref (p0), .int (x1)] (S, M) (gX6_canHalve S p0 x1 M) := by
  refine CT.of (by decide) (Nat.le_of_ble_eq_true rfl) ?_
  show AJ _ _ _ _ 0 [(0, .ref (p0)), (1, .int (x1))] [] _ _
  unfold gX6_canHalve
  refine aj_aload_n (0) dX6_canHalve_0 rfl rfl ?_
  refine aj_iload_n (1) dX6_canHalve_1 rfl rfl ?_
  refine rV_I (as := [.int (x1)]) (c_X6_weightOf w S _ _ _) mv_X6_weightOf rfl zg_1100 (by decide) (Nat.le_of_ble_eq_true rfl) dX6_canHalve_2 (fun v1 => ?_)
  refine aj_istore_n (ls2 := [(2, .int (v1)), (0, .ref (p0)), (1, .int (x1))]) dX6_canHalve_5 rfl (Nat.le_of_ble_eq_true rfl) rfl ?_
  refine aj_iconst (v := (0 : Int32)) dX6_canHalve_6 (by decide) ?_
  refine aj_istore_n (ls2 := [(3, .int ((0 : Int32))), (2, .int (v1)), (0, .ref (p0)), (1, .int (x1))]) dX6_canHalve_7 rfl (Nat.le_of_ble_eq_true rfl) rfl ?_
  refine AJ.sub [2, 3, 1, 0] rfl ?_
  exact t_X6_canHalve_8 w S zfu (p0) (x1) (v1) ((0 : Int32)) M
