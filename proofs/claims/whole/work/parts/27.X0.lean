/-! DayOpeners$Course: functions of its methods and their contracts: written by wip/whole/gen/dec.py -/
def gX0_init (p0 : Nat) (S : List (Nat × Nat)) (M : zM) : Option zH := znew S M 10 18 (fun S1 M2 r3 => zmk2 S1 (gX10_init (r3) S1 M2) (fun S4 M5 => zpR S4 M5 (p0) 0 6 0 (some (r3)) (fun M6 => znew S4 M6 5 1 (fun S7 M8 r9 => zmk2 S7 (gX5_init (r9) ((6 : Int32)) S7 M8) (fun S10 M11 => zpR S10 M11 (p0) 0 6 1 (some (r9)) (fun M12 => some (S10, M12)))))))
set_option maxHeartbeats 4000000 in
set_option maxRecDepth 100000 in
theorem c_X0_init (w : zWd) (hz : zSZ w) (hg : w.2.2.2.2.2 = 0) (p0 : Nat) (S : List (Nat × Nat)) (M : zM) : CT zfC w 5 mX0_init [.ref (p0)] (S, M) (gX0_init p0 S M) := by
  refine CT.of (by decide) (Nat.le_of_ble_eq_true rfl) ?_
  show AJ _ _ _ _ 0 [(0, .ref (p0))] [] _ _
  unfold gX0_init
  refine aj_aload_n (0) dX0_init_0 rfl rfl ?_
  refine aj_obj zg_412 zg_31 zg_32 (by decide) (Nat.le_of_ble_eq_true rfl) dX0_init_1 ?_
  refine aj_aload_n (0) dX0_init_4 rfl rfl ?_
  refine r_new (TX := TX10) hg zc10 zg_413 zg_141 zg_10 dX0_init_5 (fun S1 M2 r3 => ?_)
  refine aj_dup dX0_init_8 rfl ?_
  refine rC (as := []) hg (c_X10_init w hz hg _ _ _) mc_X10_init rfl (Or.inr ⟨_, zn_414⟩) (by decide) (Nat.le_of_ble_eq_true rfl) dX0_init_9 (fun S4 M5 => ?_)
  refine r_putR (TX := TX0) zc0 (by decide) rfl (Or.inl rfl) (Or.inl zg_417) dX0_init_12 (fun M6 => ?_)
  refine aj_aload_n (0) dX0_init_15 rfl rfl ?_
  refine r_new (TX := TX5) hg zc5 zg_415 zg_34 zg_2 dX0_init_16 (fun S7 M8 r9 => ?_)
  refine aj_dup dX0_init_19 rfl ?_
  refine aj_bipush (v := (6 : Int32)) dX0_init_20 (by decide) ?_
  refine rC (as := [.int ((6 : Int32))]) hg (c_X5_init w hz hg _ _ _ _) mc_X5_init rfl (Or.inl zg_416) (by decide) (Nat.le_of_ble_eq_true rfl) dX0_init_22 (fun S10 M11 => ?_)
  refine r_putR (TX := TX0) zc0 (by decide) rfl (Or.inr ⟨rfl, rfl, rfl, zg_418⟩) (Or.inl zg_418) dX0_init_25 (fun M12 => ?_)
  exact aj_vret dX0_init_28 rfl rfl
def gX0_goesOf (S : List (Nat × Nat)) (p0 : Nat) (p1 : Nat) (M : zM) : Option zM := zpR S M (p0) 0 6 0 (some (p1)) (fun M1 => zgR S M1 (p0) 0 6 1 (fun r2 => zgR S M1 (p0) 0 6 0 (fun r3 => zgR S M1 (r3) 10 18 3 (fun r4 => zrc S (r2) 5 1 ((gX5_copy S (r2) (r4) M1).bind (fun M5 => zpI S M5 (p0) 0 6 2 ((0 : Int32)) (fun M6 => zpI S M6 (p0) 0 6 3 ((1 : Int32)) (fun M7 => zgR S M7 (p0) 0 6 0 (fun r8 => zgI S M7 (r8) 10 18 15 (fun v9 => zpI S M7 (p0) 0 6 4 (v9) (fun M10 => zpI S M10 (p0) 0 6 5 ((-1 : Int32)) (fun M11 => some M11))))))))))))
set_option maxHeartbeats 4000000 in
set_option maxRecDepth 100000 in
theorem c_X0_goesOf (w : zWd) (S : List (Nat × Nat)) (p0 : Nat) (p1 : Nat) (M : zM) : CT (zfVM S) w 3 mX0_goesOf [.ref (p0), .ref (p1)] (S, M) (gX0_goesOf S p0 p1 M) := by
  refine CT.of (by decide) (Nat.le_of_ble_eq_true rfl) ?_
  show AJ _ _ _ _ 0 [(0, .ref (p0)), (1, .ref (p1))] [] _ _
  unfold gX0_goesOf
  refine aj_aload_n (0) dX0_goesOf_0 rfl rfl ?_
  refine aj_aload_n (1) dX0_goesOf_1 rfl rfl ?_
  refine r_putR (TX := TX0) zc0 (by decide) rfl (Or.inl rfl) (Or.inl zg_417) dX0_goesOf_2 (fun M1 => ?_)
  refine aj_aload_n (0) dX0_goesOf_5 rfl rfl ?_
  refine aj_getR (TX := TX0) zc0 (by decide) rfl (Or.inl zg_418) dX0_goesOf_6 (fun r2 => ?_)
  refine aj_aload_n (0) dX0_goesOf_9 rfl rfl ?_
  refine aj_getR (TX := TX0) zc0 (by decide) rfl (Or.inl zg_417) dX0_goesOf_10 (fun r3 => ?_)
  refine aj_getR (TX := TX10) zc10 (by decide) rfl (Or.inr ⟨_, zn_191⟩) dX0_goesOf_13 (fun r4 => ?_)
  refine rV_VM (as := [.ref (r4)]) (c_X5_copy w S _ _ _) mv_X5_copy rfl zg_855 (by decide) (Nat.le_of_ble_eq_true rfl) dX0_goesOf_16 (fun M5 => ?_)
  refine aj_aload_n (0) dX0_goesOf_19 rfl rfl ?_
  refine aj_iconst (v := (0 : Int32)) dX0_goesOf_20 (by decide) ?_
  refine r_putI (TX := TX0) zc0 (by decide) rfl rfl (by decide +kernel) rfl (Or.inl zg_420) dX0_goesOf_21 (fun M6 => ?_)
  refine aj_aload_n (0) dX0_goesOf_24 rfl rfl ?_
  refine aj_iconst (v := (1 : Int32)) dX0_goesOf_25 (by decide) ?_
  refine r_putI (TX := TX0) zc0 (by decide) rfl rfl (by decide +kernel) rfl (Or.inl zg_422) dX0_goesOf_26 (fun M7 => ?_)
  refine aj_aload_n (0) dX0_goesOf_29 rfl rfl ?_
  refine aj_aload_n (0) dX0_goesOf_30 rfl rfl ?_
  refine aj_getR (TX := TX0) zc0 (by decide) rfl (Or.inl zg_417) dX0_goesOf_31 (fun r8 => ?_)
  refine r_getI (TX := TX10) zc10 (by decide) rfl (Or.inr ⟨_, zn_235⟩) dX0_goesOf_34 (fun v9 => ?_)
  refine r_putI (TX := TX0) zc0 (by decide) rfl rfl rfl rfl (Or.inl zg_423) dX0_goesOf_37 (fun M10 => ?_)
  refine aj_aload_n (0) dX0_goesOf_40 rfl rfl ?_
  refine aj_iconst (v := (-1 : Int32)) dX0_goesOf_41 (by decide) ?_
  refine r_putI (TX := TX0) zc0 (by decide) rfl rfl rfl rfl (Or.inl zg_424) dX0_goesOf_42 (fun M11 => ?_)
  exact aj_vret dX0_goesOf_45 rfl rfl
def gX0_differs (S : List (Nat × Nat)) (p0 : Nat) (x1 : Int32) (x2 : Int32) (M : zM) : Option zM := (if x1 = (0 : Int32) then zpI S M (p0) 0 6 4 ((0 : Int32)) (fun M2 => some M2) else (if x1 = (1 : Int32) then zpI S M (p0) 0 6 4 ((100 : Int32)) (fun M4 => some M4) else (if x1 = (2 : Int32) then zpI S M (p0) 0 6 5 (x2) (fun M6 => some M6) else (if x1 = (3 : Int32) then zpI S M (p0) 0 6 3 ((0 : Int32)) (fun M8 => some M8) else zgR S M (p0) 0 6 1 (fun r9 => zrc S (r9) 5 1 ((gX5_fill S (r9) ((0 : Int32)) M).bind (fun M10 => some M10)))))))
set_option maxHeartbeats 4000000 in
set_option maxRecDepth 100000 in
theorem c_X0_differs (w : zWd) (S : List (Nat × Nat)) (p0 : Nat) (x1 : Int32) (x2 : Int32) (M : zM) : CT (zfVM S) w 2 mX0_differs [.ref (p0), .int (x1), .int (x2)] (S, M) (gX0_differs S p0 x1 x2 M) := by
  refine CT.of (by decide) (Nat.le_of_ble_eq_true rfl) ?_
  show AJ _ _ _ _ 0 [(0, .ref (p0)), (1, .int (x1)), (2, .int (x2))] [] _ _
  unfold gX0_differs
  refine aj_iload_n (1) dX0_differs_0 rfl rfl ?_
  refine aj_ite (fun h => ?_) (fun h1 => ?_)
  · have h9 : x1 = (0 : Int32) := h
    refine aj_tsw (tgt := 32) (off := 31) dX0_differs_1 (by rw [h9]; decide) (by rw [h9]; decide) (by rw [h9]; decide +kernel) (by decide) ?_
    refine aj_aload_n (0) dX0_differs_32 rfl rfl ?_
    refine aj_iconst (v := (0 : Int32)) dX0_differs_33 (by decide) ?_
    refine r_putI (TX := TX0) zc0 (by decide) rfl rfl rfl rfl (Or.inl zg_423) dX0_differs_34 (fun M2 => ?_)
    refine aj_goto (tgt := 73) dX0_differs_37 (by decide) ?_
    exact aj_vret dX0_differs_73 rfl rfl
  refine aj_ite (fun h => ?_) (fun h3 => ?_)
  · have h9 : x1 = (1 : Int32) := h
    refine aj_tsw (tgt := 40) (off := 39) dX0_differs_1 (by rw [h9]; decide) (by rw [h9]; decide) (by rw [h9]; decide +kernel) (by decide) ?_
    refine aj_aload_n (0) dX0_differs_40 rfl rfl ?_
    refine aj_bipush (v := (100 : Int32)) dX0_differs_41 (by decide) ?_
    refine r_putI (TX := TX0) zc0 (by decide) rfl rfl rfl rfl (Or.inl zg_423) dX0_differs_43 (fun M4 => ?_)
    refine aj_goto (tgt := 73) dX0_differs_46 (by decide) ?_
    exact aj_vret dX0_differs_73 rfl rfl
  refine aj_ite (fun h => ?_) (fun h5 => ?_)
  · have h9 : x1 = (2 : Int32) := h
    refine aj_tsw (tgt := 49) (off := 48) dX0_differs_1 (by rw [h9]; decide) (by rw [h9]; decide) (by rw [h9]; decide +kernel) (by decide) ?_
    refine aj_aload_n (0) dX0_differs_49 rfl rfl ?_
    refine aj_iload_n (2) dX0_differs_50 rfl rfl ?_
    refine r_putI (TX := TX0) zc0 (by decide) rfl rfl rfl rfl (Or.inl zg_424) dX0_differs_51 (fun M6 => ?_)
    refine aj_goto (tgt := 73) dX0_differs_54 (by decide) ?_
    exact aj_vret dX0_differs_73 rfl rfl
  refine aj_ite (fun h => ?_) (fun h7 => ?_)
  · have h9 : x1 = (3 : Int32) := h
    refine aj_tsw (tgt := 57) (off := 56) dX0_differs_1 (by rw [h9]; decide) (by rw [h9]; decide) (by rw [h9]; decide +kernel) (by decide) ?_
    refine aj_aload_n (0) dX0_differs_57 rfl rfl ?_
    refine aj_iconst (v := (0 : Int32)) dX0_differs_58 (by decide) ?_
    refine r_putI (TX := TX0) zc0 (by decide) rfl rfl (by decide +kernel) rfl (Or.inl zg_422) dX0_differs_59 (fun M8 => ?_)
    refine aj_goto (tgt := 73) dX0_differs_62 (by decide) ?_
    exact aj_vret dX0_differs_73 rfl rfl
  refine aj_tswO (tgt := 65) dX0_differs_1 (by have a0 := lv_neT (k := (0 : Int32)) h1 (a := 0) (by decide); have a1 := lv_neT (k := (1 : Int32)) h3 (a := 1) (by decide); have a2 := lv_neT (k := (2 : Int32)) h5 (a := 2) (by decide); have a3 := lv_neT (k := (3 : Int32)) h7 (a := 3) (by decide); omega) (by decide) ?_
  refine aj_aload_n (0) dX0_differs_65 rfl rfl ?_
  refine aj_getR (TX := TX0) zc0 (by decide) rfl (Or.inl zg_418) dX0_differs_66 (fun r9 => ?_)
  refine aj_iconst (v := (0 : Int32)) dX0_differs_69 (by decide) ?_
  refine rV_VM (as := [.int ((0 : Int32))]) (c_X5_fill w S _ _ _) mv_X5_fill rfl zg_1224 (by decide) (Nat.le_of_ble_eq_true rfl) dX0_differs_70 (fun M10 => ?_)
  exact aj_vret dX0_differs_73 rfl rfl
def gX0_bounded (S : List (Nat × Nat)) (l0 : Int64) (x2 : Int32) (x3 : Int32) (x4 : Int32) (M : zM) : Option Int32 := (if (lg_cmp l0 (-9223372036854775808 : Int64)) = 0 then some (x4) else some (((if (if l0 < (x3).toInt64 then l0 else (x3).toInt64) < (x2).toInt64 then (x2).toInt64 else (if l0 < (x3).toInt64 then l0 else (x3).toInt64))).toInt32))
set_option maxHeartbeats 4000000 in
set_option maxRecDepth 100000 in
theorem c_X0_bounded (w : zWd) (S : List (Nat × Nat)) (l0 : Int64) (x2 : Int32) (x3 : Int32) (x4 : Int32) (M : zM) : CT (zfI S M) w 2 mX0_bounded [.long (l0), .int (x2), .int (x3), .int (x4)] (S, M) (gX0_bounded S l0 x2 x3 x4 M) := by
  refine CT.of (by decide) (Nat.le_of_ble_eq_true rfl) ?_
  show AJ _ _ _ _ 0 [(0, .long (l0)), (2, .int (x2)), (3, .int (x3)), (4, .int (x4))] [] _ _
  unfold gX0_bounded
  refine aj_lload_n (0) dX0_bounded_0 rfl rfl ?_
  refine aj_ldc2 (v := (-9223372036854775808 : Int64)) dX0_bounded_1 zg_861 ?_
  refine aj_lcmp dX0_bounded_4 ?_
  refine aj_if_ne (tgt := 13) dX0_bounded_5 (by decide) (fun h => ?_) (fun h => ?_)
  · refine aj_iload_n (1) dX0_bounded_13 rfl rfl ?_
    refine aj_i2l dX0_bounded_14 ?_
    refine aj_iload_n (2) dX0_bounded_15 rfl rfl ?_
    refine aj_i2l dX0_bounded_16 ?_
    refine aj_lload_n (0) dX0_bounded_17 rfl rfl ?_
    refine aj_mmin_long zg_896 zg_897 zg_3 zg_898 (by decide) (Nat.le_of_ble_eq_true rfl) dX0_bounded_18 ?_
    refine aj_mmax_long zg_899 zg_900 zg_3 zg_901 (by decide) (Nat.le_of_ble_eq_true rfl) dX0_bounded_21 ?_
    refine aj_l2i dX0_bounded_24 ?_
    exact aj_iret dX0_bounded_25 rfl rfl rfl
  refine aj_iload (3) dX0_bounded_8 rfl ?_
  refine aj_goto (tgt := 25) dX0_bounded_10 (by decide) ?_
  exact aj_iret dX0_bounded_25 rfl rfl rfl
def gX0_isMistake (S : List (Nat × Nat)) (p0 : Nat) (p1 : Nat) (M : zM) : Option (Int32 × zM) := zgI S M (p0) 0 6 4 (fun v1 => (if v1 = 0 then zgI S M (p0) 0 6 4 (fun v2 => (if v2 = (100 : Int32) then some ((1 : Int32), M) else some ((0 : Int32), M))) else zgI S M (p0) 0 6 4 (fun v3 => (if v3 = (100 : Int32) then zgI S M (p0) 0 6 4 (fun v9 => (if v9 = (100 : Int32) then some ((1 : Int32), M) else some ((0 : Int32), M))) else zgI S M (p0) 0 6 2 (fun v4 => (if v4 = 0 then zgI S M (p0) 0 6 4 (fun v5 => (if v5 < (50 : Int32) then some ((0 : Int32), M) else some ((1 : Int32), M))) else zrc S (p1) 7 15 (zb2 (gX7_draw S (p1) M) (fun v6 M7 => zgI S M7 (p0) 0 6 4 (fun v8 => (if v8 ≤ (v6 - v6 / (100 : Int32) * (100 : Int32)) then some ((0 : Int32), M7) else some ((1 : Int32), M7)))))))))))
set_option maxHeartbeats 4000000 in
set_option maxRecDepth 100000 in
theorem c_X0_isMistake (w : zWd) (S : List (Nat × Nat)) (p0 : Nat) (p1 : Nat) (M : zM) : CT (zfIM S) w 2 mX0_isMistake [.ref (p0), .ref (p1)] (S, M) (gX0_isMistake S p0 p1 M) := by
  refine CT.of (by decide) (Nat.le_of_ble_eq_true rfl) ?_
  show AJ _ _ _ _ 0 [(0, .ref (p0)), (1, .ref (p1))] [] _ _
  unfold gX0_isMistake
  refine aj_aload_n (0) dX0_isMistake_0 rfl rfl ?_
  refine r_getI (TX := TX0) zc0 (by decide) rfl (Or.inl zg_423) dX0_isMistake_1 (fun v1 => ?_)
  refine aj_if_eq (tgt := 16) dX0_isMistake_4 (by decide) (fun h => ?_) (fun h => ?_)
  · refine aj_aload_n (0) dX0_isMistake_16 rfl rfl ?_
    refine r_getI (TX := TX0) zc0 (by decide) rfl (Or.inl zg_423) dX0_isMistake_17 (fun v2 => ?_)
    refine aj_bipush (v := (100 : Int32)) dX0_isMistake_20 (by decide) ?_
    refine aj_icmp_ne (tgt := 29) dX0_isMistake_22 (by decide) (fun h => ?_) (fun h => ?_)
    · refine aj_iconst (v := (0 : Int32)) dX0_isMistake_29 (by decide) ?_
      exact aj_iret dX0_isMistake_30 rfl (by decide +kernel) rfl
    refine aj_iconst (v := (1 : Int32)) dX0_isMistake_25 (by decide) ?_
    refine aj_goto (tgt := 30) dX0_isMistake_26 (by decide) ?_
    exact aj_iret dX0_isMistake_30 rfl (by decide +kernel) rfl
  refine aj_aload_n (0) dX0_isMistake_7 rfl rfl ?_
  refine r_getI (TX := TX0) zc0 (by decide) rfl (Or.inl zg_423) dX0_isMistake_8 (fun v3 => ?_)
  refine aj_bipush (v := (100 : Int32)) dX0_isMistake_11 (by decide) ?_
  refine aj_icmp_ne (tgt := 31) dX0_isMistake_13 (by decide) (fun h => ?_) (fun h => ?_)
  · refine aj_aload_n (0) dX0_isMistake_31 rfl rfl ?_
    refine r_getI (TX := TX0) zc0 (by decide) rfl (Or.inl zg_420) dX0_isMistake_32 (fun v4 => ?_)
    refine aj_if_eq (tgt := 60) dX0_isMistake_35 (by decide) (fun h => ?_) (fun h => ?_)
    · refine aj_aload_n (0) dX0_isMistake_60 rfl rfl ?_
      refine r_getI (TX := TX0) zc0 (by decide) rfl (Or.inl zg_423) dX0_isMistake_61 (fun v5 => ?_)
      refine aj_bipush (v := (50 : Int32)) dX0_isMistake_64 (by decide) ?_
      refine aj_icmp_lt (tgt := 73) dX0_isMistake_66 (by decide) (fun h => ?_) (fun h => ?_)
      · refine aj_iconst (v := (0 : Int32)) dX0_isMistake_73 (by decide) ?_
        exact aj_iret dX0_isMistake_74 rfl (by decide +kernel) rfl
      refine aj_iconst (v := (1 : Int32)) dX0_isMistake_69 (by decide) ?_
      refine aj_goto (tgt := 74) dX0_isMistake_70 (by decide) ?_
      exact aj_iret dX0_isMistake_74 rfl (by decide +kernel) rfl
    refine aj_aload_n (1) dX0_isMistake_38 rfl rfl ?_
    refine rV_IM (as := []) (c_X7_draw w S _ _) mv_X7_draw rfl zg_944 (by decide) (Nat.le_of_ble_eq_true rfl) dX0_isMistake_39 (fun v6 M7 => ?_)
    refine aj_bipush (v := (100 : Int32)) dX0_isMistake_42 (by decide) ?_
    refine aj_iremc dX0_isMistake_44 (by decide) ?_
    refine aj_aload_n (0) dX0_isMistake_45 rfl rfl ?_
    refine r_getI (TX := TX0) zc0 (by decide) rfl (Or.inl zg_423) dX0_isMistake_46 (fun v8 => ?_)
    refine aj_icmp_ge (tgt := 56) dX0_isMistake_49 (by decide) (fun h => ?_) (fun h => ?_)
    · refine aj_iconst (v := (0 : Int32)) dX0_isMistake_56 (by decide) ?_
      refine aj_goto (tgt := 74) dX0_isMistake_57 (by decide) ?_
      exact aj_iret dX0_isMistake_74 rfl (by decide +kernel) rfl
    refine aj_iconst (v := (1 : Int32)) dX0_isMistake_52 (by decide) ?_
    refine aj_goto (tgt := 74) dX0_isMistake_53 (by decide) ?_
    exact aj_iret dX0_isMistake_74 rfl (by decide +kernel) rfl
  refine aj_aload_n (0) dX0_isMistake_16 rfl rfl ?_
  refine r_getI (TX := TX0) zc0 (by decide) rfl (Or.inl zg_423) dX0_isMistake_17 (fun v9 => ?_)
  refine aj_bipush (v := (100 : Int32)) dX0_isMistake_20 (by decide) ?_
  refine aj_icmp_ne (tgt := 29) dX0_isMistake_22 (by decide) (fun h => ?_) (fun h => ?_)
  · refine aj_iconst (v := (0 : Int32)) dX0_isMistake_29 (by decide) ?_
    exact aj_iret dX0_isMistake_30 rfl (by decide +kernel) rfl
  refine aj_iconst (v := (1 : Int32)) dX0_isMistake_25 (by decide) ?_
  refine aj_goto (tgt := 30) dX0_isMistake_26 (by decide) ?_
  exact aj_iret dX0_isMistake_30 rfl (by decide +kernel) rfl
def gX0_worth (S : List (Nat × Nat)) (p0 : Nat) (p1 : Nat) (x2 : Int32) (x3 : Int32) (M : zM) : Option (Int64 × zM) := zgR S M (p0) 0 6 0 (fun r1 => zgR S M (r1) 10 18 17 (fun r2 => zrc S (r2) 1 7 ((gX1_has S (r2) (x2) M).bind (fun v3 => (if v3 = 0 then some ((-9223372036854775808 : Int64), M) else zgR S M (p0) 0 6 1 (fun r4 => zrc S (r4) 5 1 ((gX5_get S (r4) (x3) M).bind (fun v5 => zrc S (r2) 1 7 ((gX1_setName S (r2) ((0 : Int32)) ((v5).toInt64) M).bind (fun M6 => zgR S M6 (p0) 0 6 0 (fun r7 => zgR S M6 (r7) 10 18 4 (fun r8 => zrc S (r8) 5 1 ((gX5_get S (r8) (x3) M6).bind (fun v9 => zrc S (r2) 1 7 ((gX1_setName S (r2) ((1 : Int32)) ((v9).toInt64) M6).bind (fun M10 => zgR S M10 (p1) 7 15 12 (fun r11 => zrc S (r11) 5 1 ((gX5_get S (r11) (x3) M10).bind (fun v12 => zrc S (r2) 1 7 ((gX1_setName S (r2) ((2 : Int32)) ((v12).toInt64) M10).bind (fun M13 => zgR S M13 (p1) 7 15 13 (fun r14 => zrc S (r14) 5 1 ((gX5_get S (r14) (x3) M13).bind (fun v15 => zrc S (r2) 1 7 ((gX1_setName S (r2) ((3 : Int32)) ((v15).toInt64) M13).bind (fun M16 => zgI S M16 (p1) 7 15 5 (fun v17 => zrc S (r2) 1 7 ((gX1_setName S (r2) ((4 : Int32)) ((v17).toInt64) M16).bind (fun M18 => zgI S M18 (p1) 7 15 4 (fun v19 => zrc S (r2) 1 7 ((gX1_setName S (r2) ((5 : Int32)) ((v19).toInt64) M18).bind (fun M20 => zgI S M20 (p1) 7 15 0 (fun v21 => zrc S (r2) 1 7 ((gX1_setName S (r2) ((6 : Int32)) ((v21).toInt64) M20).bind (fun M22 => zrc S (r2) 1 7 (zb2 (gX1_worth S (r2) (x2) M22) (fun w23 M24 => some (w23, M24))))))))))))))))))))))))))))))))))))))
set_option maxHeartbeats 4000000 in
set_option maxRecDepth 100000 in
theorem c_X0_worth (w : zWd) (S : List (Nat × Nat)) (p0 : Nat) (p1 : Nat) (x2 : Int32) (x3 : Int32) (M : zM) : CT (zfJM S) w 4 mX0_worth [.ref (p0), .ref (p1), .int (x2), .int (x3)] (S, M) (gX0_worth S p0 p1 x2 x3 M) := by
  refine CT.of (by decide) (Nat.le_of_ble_eq_true rfl) ?_
  show AJ _ _ _ _ 0 [(0, .ref (p0)), (1, .ref (p1)), (2, .int (x2)), (3, .int (x3))] [] _ _
  unfold gX0_worth
  refine aj_aload_n (0) dX0_worth_0 rfl rfl ?_
  refine aj_getR (TX := TX0) zc0 (by decide) rfl (Or.inl zg_417) dX0_worth_1 (fun r1 => ?_)
  refine aj_getR (TX := TX10) zc10 (by decide) rfl (Or.inr ⟨_, zn_242⟩) dX0_worth_4 (fun r2 => ?_)
  refine aj_astore (ls2 := [(4, .ref (r2)), (0, .ref (p0)), (1, .ref (p1)), (2, .int (x2)), (3, .int (x3))]) dX0_worth_7 (Nat.le_of_ble_eq_true rfl) rfl ?_
  refine aj_aload (0) dX0_worth_9 rfl ?_
  refine aj_iload_n (3) dX0_worth_11 rfl rfl ?_
  refine rV_I (as := [.int (x2)]) (c_X1_has w S _ _ _) mv_X1_has rfl zg_860 (by decide) (Nat.le_of_ble_eq_true rfl) dX0_worth_12 (fun v3 => ?_)
  refine aj_if_ne (tgt := 22) dX0_worth_15 (by decide) (fun h => ?_) (fun h => ?_)
  · refine aj_aload (0) dX0_worth_22 rfl ?_
    refine aj_iconst (v := (0 : Int32)) dX0_worth_24 (by decide) ?_
    refine aj_aload_n (1) dX0_worth_25 rfl rfl ?_
    refine aj_getR (TX := TX0) zc0 (by decide) rfl (Or.inl zg_418) dX0_worth_26 (fun r4 => ?_)
    refine aj_iload_n (4) dX0_worth_29 rfl rfl ?_
    refine rV_I (as := [.int (x3)]) (c_X5_get w S _ _ _) mv_X5_get rfl zg_862 (by decide) (Nat.le_of_ble_eq_true rfl) dX0_worth_30 (fun v5 => ?_)
    refine aj_i2l dX0_worth_33 ?_
    refine rV_VM (as := [.int ((0 : Int32)), .long ((v5).toInt64)]) (c_X1_setName w S _ _ _ _) mv_X1_setName rfl zg_863 (by decide) (Nat.le_of_ble_eq_true rfl) dX0_worth_34 (fun M6 => ?_)
    refine aj_aload (0) dX0_worth_37 rfl ?_
    refine aj_iconst (v := (1 : Int32)) dX0_worth_39 (by decide) ?_
    refine aj_aload_n (1) dX0_worth_40 rfl rfl ?_
    refine aj_getR (TX := TX0) zc0 (by decide) rfl (Or.inl zg_417) dX0_worth_41 (fun r7 => ?_)
    refine aj_getR (TX := TX10) zc10 (by decide) rfl (Or.inr ⟨_, zn_197⟩) dX0_worth_44 (fun r8 => ?_)
    refine aj_iload_n (4) dX0_worth_47 rfl rfl ?_
    refine rV_I (as := [.int (x3)]) (c_X5_get w S _ _ _) mv_X5_get rfl zg_862 (by decide) (Nat.le_of_ble_eq_true rfl) dX0_worth_48 (fun v9 => ?_)
    refine aj_i2l dX0_worth_51 ?_
    refine rV_VM (as := [.int ((1 : Int32)), .long ((v9).toInt64)]) (c_X1_setName w S _ _ _ _) mv_X1_setName rfl zg_863 (by decide) (Nat.le_of_ble_eq_true rfl) dX0_worth_52 (fun M10 => ?_)
    refine aj_aload (0) dX0_worth_55 rfl ?_
    refine aj_iconst (v := (2 : Int32)) dX0_worth_57 (by decide) ?_
    refine aj_aload_n (2) dX0_worth_58 rfl rfl ?_
    refine aj_getR (TX := TX7) zc7 (by decide) rfl (Or.inr ⟨_, zn_369⟩) dX0_worth_59 (fun r11 => ?_)
    refine aj_iload_n (4) dX0_worth_62 rfl rfl ?_
    refine rV_I (as := [.int (x3)]) (c_X5_get w S _ _ _) mv_X5_get rfl zg_862 (by decide) (Nat.le_of_ble_eq_true rfl) dX0_worth_63 (fun v12 => ?_)
    refine aj_i2l dX0_worth_66 ?_
    refine rV_VM (as := [.int ((2 : Int32)), .long ((v12).toInt64)]) (c_X1_setName w S _ _ _ _) mv_X1_setName rfl zg_863 (by decide) (Nat.le_of_ble_eq_true rfl) dX0_worth_67 (fun M13 => ?_)
    refine aj_aload (0) dX0_worth_70 rfl ?_
    refine aj_iconst (v := (3 : Int32)) dX0_worth_72 (by decide) ?_
    refine aj_aload_n (2) dX0_worth_73 rfl rfl ?_
    refine aj_getR (TX := TX7) zc7 (by decide) rfl (Or.inr ⟨_, zn_372⟩) dX0_worth_74 (fun r14 => ?_)
    refine aj_iload_n (4) dX0_worth_77 rfl rfl ?_
    refine rV_I (as := [.int (x3)]) (c_X5_get w S _ _ _) mv_X5_get rfl zg_862 (by decide) (Nat.le_of_ble_eq_true rfl) dX0_worth_78 (fun v15 => ?_)
    refine aj_i2l dX0_worth_81 ?_
    refine rV_VM (as := [.int ((3 : Int32)), .long ((v15).toInt64)]) (c_X1_setName w S _ _ _ _) mv_X1_setName rfl zg_863 (by decide) (Nat.le_of_ble_eq_true rfl) dX0_worth_82 (fun M16 => ?_)
    refine aj_aload (0) dX0_worth_85 rfl ?_
    refine aj_iconst (v := (4 : Int32)) dX0_worth_87 (by decide) ?_
    refine aj_aload_n (2) dX0_worth_88 rfl rfl ?_
    refine r_getI (TX := TX7) zc7 (by decide) rfl (Or.inr ⟨_, zn_345⟩) dX0_worth_89 (fun v17 => ?_)
    refine aj_i2l dX0_worth_92 ?_
    refine rV_VM (as := [.int ((4 : Int32)), .long ((v17).toInt64)]) (c_X1_setName w S _ _ _ _) mv_X1_setName rfl zg_863 (by decide) (Nat.le_of_ble_eq_true rfl) dX0_worth_93 (fun M18 => ?_)
    refine aj_aload (0) dX0_worth_96 rfl ?_
    refine aj_iconst (v := (5 : Int32)) dX0_worth_98 (by decide) ?_
    refine aj_aload_n (2) dX0_worth_99 rfl rfl ?_
    refine r_getI (TX := TX7) zc7 (by decide) rfl (Or.inr ⟨_, zn_341⟩) dX0_worth_100 (fun v19 => ?_)
    refine aj_i2l dX0_worth_103 ?_
    refine rV_VM (as := [.int ((5 : Int32)), .long ((v19).toInt64)]) (c_X1_setName w S _ _ _ _) mv_X1_setName rfl zg_863 (by decide) (Nat.le_of_ble_eq_true rfl) dX0_worth_104 (fun M20 => ?_)
    refine aj_aload (0) dX0_worth_107 rfl ?_
    refine aj_bipush (v := (6 : Int32)) dX0_worth_109 (by decide) ?_
    refine aj_aload_n (2) dX0_worth_111 rfl rfl ?_
    refine r_getI (TX := TX7) zc7 (by decide) rfl (Or.inr ⟨_, zn_328⟩) dX0_worth_112 (fun v21 => ?_)
    refine aj_i2l dX0_worth_115 ?_
    refine rV_VM (as := [.int ((6 : Int32)), .long ((v21).toInt64)]) (c_X1_setName w S _ _ _ _) mv_X1_setName rfl zg_863 (by decide) (Nat.le_of_ble_eq_true rfl) dX0_worth_116 (fun M22 => ?_)
    refine aj_aload (0) dX0_worth_119 rfl ?_
    refine aj_iload_n (3) dX0_worth_121 rfl rfl ?_
    refine rV_JM (as := [.int (x2)]) (c_X1_worth w S _ _ _) mv_X1_worth rfl zg_867 (by decide) (Nat.le_of_ble_eq_true rfl) dX0_worth_122 (fun w23 M24 => ?_)
    exact aj_lret dX0_worth_125 rfl rfl
  refine aj_ldc2 (v := (-9223372036854775808 : Int64)) dX0_worth_18 zg_861 ?_
  exact aj_lret dX0_worth_21 rfl rfl
def gX0_byTurns_40 (S : List (Nat × Nat)) : Nat → Nat → Nat → Int32 → Int32 → Int32 → zM → Option (Int32 × zM)
  | 0 => fun _ _ _ _ _ _ => none
  | n + 1 => fun p0 p1 x2 x3 x4 M => zgI S M (p1) 7 15 10 (fun v1 => (if v1 ≤ x4 then some ((-1 : Int32), M) else zgR S M (p1) 7 15 11 (fun r2 => zrc S (r2) 5 1 ((gX5_get S (r2) (x2) M).bind (fun v3 => zrc S (p1) 7 15 ((gX7_behind S (p1) (x2) M).bind (fun v4 => (if ((x3 >>> (v3 &&& 31)) &&& (1 : Int32)) = 0 then zgI S M (p0) 0 6 5 (fun v5 => (if v3 = v5 then (gX0_byTurns_40 S   n) (p0) (p1) (v4) ((x3 ||| ((1 : Int32) <<< (v3 &&& 31)))) ((x4 + (1 : Int32))) M else zrc S (p0) 0 6 (zb2 (gX0_worth S (p0) (p1) ((2 : Int32)) (v3) M) (fun w6 M7 => (if (lg_cmp w6 (0 : Int64)) = 0 then (gX0_byTurns_40 S   n) (p0) (p1) (v4) ((x3 ||| ((1 : Int32) <<< (v3 &&& 31)))) ((x4 + (1 : Int32))) M7 else zpI S M7 (p1) 7 15 1 (v4) (fun M8 => some (v3, M8))))))) else (gX0_byTurns_40 S   n) (p0) (p1) (v4) (x3) ((x4 + (1 : Int32))) M))))))))
set_option maxHeartbeats 4000000 in
set_option maxRecDepth 100000 in
theorem t_X0_byTurns_40 (w : zWd) (S : List (Nat × Nat)) (fu : Nat) : ∀ (p0 : Nat) (p1 : Nat) (x2 : Int32) (x3 : Int32) (x4 : Int32) (M : zM), AJ (zfIM S) w 5 mX0_byTurns 40 [(0, .ref (p0)), (1, .ref (p1)), (2, .int (x2)), (3, .int (x3)), (4, .int (x4))] [] (S, M) (gX0_byTurns_40 S fu p0 p1 x2 x3 x4 M) := by
  induction fu with
  | zero => intro p0 p1 x2 x3 x4 M; exact AJ.none
  | succ n ih =>
    intro p0 p1 x2 x3 x4 M
    unfold gX0_byTurns_40
    refine aj_iload (4) dX0_byTurns_40 rfl ?_
    refine aj_aload_n (1) dX0_byTurns_42 rfl rfl ?_
    refine r_getI (TX := TX7) zc7 (by decide) rfl (Or.inr ⟨_, zn_360⟩) dX0_byTurns_43 (fun v1 => ?_)
    refine aj_icmp_ge (tgt := 117) dX0_byTurns_46 (by decide) (fun h => ?_) (fun h => ?_)
    · refine aj_iconst (v := (-1 : Int32)) dX0_byTurns_117 (by decide) ?_
      exact aj_iret dX0_byTurns_118 rfl rfl rfl
    refine aj_aload_n (1) dX0_byTurns_49 rfl rfl ?_
    refine aj_getR (TX := TX7) zc7 (by decide) rfl (Or.inr ⟨_, zn_365⟩) dX0_byTurns_50 (fun r2 => ?_)
    refine aj_iload_n (2) dX0_byTurns_53 rfl rfl ?_
    refine rV_I (as := [.int (x2)]) (c_X5_get w S _ _ _) mv_X5_get rfl zg_862 (by decide) (Nat.le_of_ble_eq_true rfl) dX0_byTurns_54 (fun v3 => ?_)
    refine aj_istore (ls2 := [(5, .int (v3)), (0, .ref (p0)), (1, .ref (p1)), (2, .int (x2)), (3, .int (x3)), (4, .int (x4))]) dX0_byTurns_57 (Nat.le_of_ble_eq_true rfl) rfl ?_
    refine aj_aload_n (2) dX0_byTurns_59 rfl rfl ?_
    refine aj_iload_n (3) dX0_byTurns_60 rfl rfl ?_
    refine rV_I (as := [.int (x2)]) (c_X7_behind w S _ _ _) mv_X7_behind rfl zg_951 (by decide) (Nat.le_of_ble_eq_true rfl) dX0_byTurns_61 (fun v4 => ?_)
    refine aj_istore_n (ls2 := [(2, .int (v4)), (5, .int (v3)), (0, .ref (p0)), (1, .ref (p1)), (3, .int (x3)), (4, .int (x4))]) dX0_byTurns_64 rfl (Nat.le_of_ble_eq_true rfl) rfl ?_
    refine aj_iload_n (4) dX0_byTurns_65 rfl rfl ?_
    refine aj_iload (1) dX0_byTurns_66 rfl ?_
    refine aj_ishr dX0_byTurns_68 ?_
    refine aj_iconst (v := (1 : Int32)) dX0_byTurns_69 (by decide) ?_
    refine aj_iand dX0_byTurns_70 ?_
    refine aj_if_ne (tgt := 111) dX0_byTurns_71 (by decide) (fun h => ?_) (fun h => ?_)
    · refine aj_iinc (j := 5) (v := (x4 + (1 : Int32))) (ls2 := [(4, .int ((x4 + (1 : Int32)))), (2, .int (v4)), (5, .int (v3)), (0, .ref (p0)), (1, .ref (p1)), (3, .int (x3))]) dX0_byTurns_111 rfl rfl (Nat.le_of_ble_eq_true rfl) rfl ?_
      refine aj_goto (tgt := 40) dX0_byTurns_114 (by decide) ?_
      refine AJ.sub [3, 4, 1, 5, 0] rfl ?_
      exact ih (p0) (p1) (v4) (x3) ((x4 + (1 : Int32))) M
    refine aj_iload (1) dX0_byTurns_74 rfl ?_
    refine aj_aload_n (2) dX0_byTurns_76 rfl rfl ?_
    refine r_getI (TX := TX0) zc0 (by decide) rfl (Or.inl zg_424) dX0_byTurns_77 (fun v5 => ?_)
    refine aj_icmp_eq (tgt := 104) dX0_byTurns_80 (by decide) (fun h => ?_) (fun h => ?_)
    · refine aj_iload_n (4) dX0_byTurns_104 rfl rfl ?_
      refine aj_iconst (v := (1 : Int32)) dX0_byTurns_105 (by decide) ?_
      refine aj_iload (1) dX0_byTurns_106 rfl ?_
      refine aj_ishl dX0_byTurns_108 ?_
      refine aj_ior dX0_byTurns_109 ?_
      refine aj_istore_n (ls2 := [(3, .int ((x3 ||| ((1 : Int32) <<< (v3 &&& 31))))), (2, .int (v4)), (5, .int (v3)), (0, .ref (p0)), (1, .ref (p1)), (4, .int (x4))]) dX0_byTurns_110 rfl (Nat.le_of_ble_eq_true rfl) rfl ?_
      refine aj_iinc (j := 5) (v := (x4 + (1 : Int32))) (ls2 := [(4, .int ((x4 + (1 : Int32)))), (3, .int ((x3 ||| ((1 : Int32) <<< (v3 &&& 31))))), (2, .int (v4)), (5, .int (v3)), (0, .ref (p0)), (1, .ref (p1))]) dX0_byTurns_111 rfl rfl (Nat.le_of_ble_eq_true rfl) rfl ?_
      refine aj_goto (tgt := 40) dX0_byTurns_114 (by decide) ?_
      refine AJ.sub [4, 5, 2, 1, 0] rfl ?_
      exact ih (p0) (p1) (v4) ((x3 ||| ((1 : Int32) <<< (v3 &&& 31)))) ((x4 + (1 : Int32))) M
    refine aj_aload_n (2) dX0_byTurns_83 rfl rfl ?_
    refine aj_aload_n (3) dX0_byTurns_84 rfl rfl ?_
    refine aj_iconst (v := (2 : Int32)) dX0_byTurns_85 (by decide) ?_
    refine aj_iload (1) dX0_byTurns_86 rfl ?_
    refine rV_JM (as := [.ref (p1), .int ((2 : Int32)), .int (v3)]) (c_X0_worth w S _ _ _ _ _) mv_X0_worth rfl zg_892 (by decide) (Nat.le_of_ble_eq_true rfl) dX0_byTurns_88 (fun w6 M7 => ?_)
    refine aj_lconst (v := (0 : Int64)) dX0_byTurns_91 (by decide) ?_
    refine aj_lcmp dX0_byTurns_92 ?_
    refine aj_if_eq (tgt := 104) dX0_byTurns_93 (by decide) (fun h => ?_) (fun h => ?_)
    · refine aj_iload_n (4) dX0_byTurns_104 rfl rfl ?_
      refine aj_iconst (v := (1 : Int32)) dX0_byTurns_105 (by decide) ?_
      refine aj_iload (1) dX0_byTurns_106 rfl ?_
      refine aj_ishl dX0_byTurns_108 ?_
      refine aj_ior dX0_byTurns_109 ?_
      refine aj_istore_n (ls2 := [(3, .int ((x3 ||| ((1 : Int32) <<< (v3 &&& 31))))), (2, .int (v4)), (5, .int (v3)), (0, .ref (p0)), (1, .ref (p1)), (4, .int (x4))]) dX0_byTurns_110 rfl (Nat.le_of_ble_eq_true rfl) rfl ?_
      refine aj_iinc (j := 5) (v := (x4 + (1 : Int32))) (ls2 := [(4, .int ((x4 + (1 : Int32)))), (3, .int ((x3 ||| ((1 : Int32) <<< (v3 &&& 31))))), (2, .int (v4)), (5, .int (v3)), (0, .ref (p0)), (1, .ref (p1))]) dX0_byTurns_111 rfl rfl (Nat.le_of_ble_eq_true rfl) rfl ?_
      refine aj_goto (tgt := 40) dX0_byTurns_114 (by decide) ?_
      refine AJ.sub [4, 5, 2, 1, 0] rfl ?_
      exact ih (p0) (p1) (v4) ((x3 ||| ((1 : Int32) <<< (v3 &&& 31)))) ((x4 + (1 : Int32))) M7
    refine aj_aload_n (3) dX0_byTurns_96 rfl rfl ?_
    refine aj_iload_n (0) dX0_byTurns_97 rfl rfl ?_
    refine r_putI (TX := TX7) zc7 (by decide) rfl rfl rfl rfl (Or.inr ⟨_, zn_331⟩) dX0_byTurns_98 (fun M8 => ?_)
    refine aj_iload (1) dX0_byTurns_101 rfl ?_
    exact aj_iret dX0_byTurns_103 rfl rfl rfl
def gX0_byTurns (S : List (Nat × Nat)) (p0 : Nat) (p1 : Nat) (M : zM) : Option (Int32 × zM) := zrc S (p0) 0 6 (zb2 (gX0_isMistake S (p0) (p1) M) (fun v1 M2 => (if v1 = 0 then zgI S M2 (p1) 7 15 1 (fun v3 => gX0_byTurns_40 S zfu (p0) (p1) (v3) ((0 : Int32)) ((0 : Int32)) M2) else zgI S M2 (p1) 7 15 6 (fun v4 => zpI S M2 (p1) 7 15 6 ((v4 + (1 : Int32))) (fun M5 => zgI S M5 (p1) 7 15 1 (fun v6 => zrc S (p1) 7 15 ((gX7_behind S (p1) (v6) M5).bind (fun v7 => zpI S M5 (p1) 7 15 1 (v7) (fun M8 => zgI S M8 (p1) 7 15 1 (fun v9 => gX0_byTurns_40 S zfu (p0) (p1) (v9) ((0 : Int32)) ((0 : Int32)) M8))))))))))
set_option maxHeartbeats 4000000 in
set_option maxRecDepth 100000 in
theorem c_X0_byTurns (w : zWd) (S : List (Nat × Nat)) (p0 : Nat) (p1 : Nat) (M : zM) : CT (zfIM S) w 5 mX0_byTurns [.ref (p0), .ref (p1)] (S, M) (gX0_byTurns S p0 p1 M) := by
  refine CT.of (by decide) (Nat.le_of_ble_eq_true rfl) ?_
  show AJ _ _ _ _ 0 [(0, .ref (p0)), (1, .ref (p1))] [] _ _
  unfold gX0_byTurns
  refine aj_aload_n (0) dX0_byTurns_0 rfl rfl ?_
  refine aj_aload_n (1) dX0_byTurns_1 rfl rfl ?_
  refine rV_IM (as := [.ref (p1)]) (c_X0_isMistake w S _ _ _) mv_X0_isMistake rfl zg_940 (by decide) (Nat.le_of_ble_eq_true rfl) dX0_byTurns_2 (fun v1 M2 => ?_)
  refine aj_if_eq (tgt := 30) dX0_byTurns_5 (by decide) (fun h => ?_) (fun h => ?_)
  · refine aj_aload_n (1) dX0_byTurns_30 rfl rfl ?_
    refine r_getI (TX := TX7) zc7 (by decide) rfl (Or.inr ⟨_, zn_331⟩) dX0_byTurns_31 (fun v3 => ?_)
    refine aj_istore_n (ls2 := [(2, .int (v3)), (0, .ref (p0)), (1, .ref (p1))]) dX0_byTurns_34 rfl (Nat.le_of_ble_eq_true rfl) rfl ?_
    refine aj_iconst (v := (0 : Int32)) dX0_byTurns_35 (by decide) ?_
    refine aj_istore_n (ls2 := [(3, .int ((0 : Int32))), (2, .int (v3)), (0, .ref (p0)), (1, .ref (p1))]) dX0_byTurns_36 rfl (Nat.le_of_ble_eq_true rfl) rfl ?_
    refine aj_iconst (v := (0 : Int32)) dX0_byTurns_37 (by decide) ?_
    refine aj_istore (ls2 := [(4, .int ((0 : Int32))), (3, .int ((0 : Int32))), (2, .int (v3)), (0, .ref (p0)), (1, .ref (p1))]) dX0_byTurns_38 (Nat.le_of_ble_eq_true rfl) rfl ?_
    refine AJ.sub [3, 4, 2, 1, 0] rfl ?_
    exact t_X0_byTurns_40 w S zfu (p0) (p1) (v3) ((0 : Int32)) ((0 : Int32)) M2
  refine aj_aload_n (1) dX0_byTurns_8 rfl rfl ?_
  refine aj_dup dX0_byTurns_9 rfl ?_
  refine r_getI (TX := TX7) zc7 (by decide) rfl (Or.inr ⟨_, zn_348⟩) dX0_byTurns_10 (fun v4 => ?_)
  refine aj_iconst (v := (1 : Int32)) dX0_byTurns_13 (by decide) ?_
  refine aj_iadd dX0_byTurns_14 ?_
  refine r_putI (TX := TX7) zc7 (by decide) rfl rfl rfl rfl (Or.inr ⟨_, zn_348⟩) dX0_byTurns_15 (fun M5 => ?_)
  refine aj_aload_n (1) dX0_byTurns_18 rfl rfl ?_
  refine aj_aload_n (1) dX0_byTurns_19 rfl rfl ?_
  refine aj_aload_n (1) dX0_byTurns_20 rfl rfl ?_
  refine r_getI (TX := TX7) zc7 (by decide) rfl (Or.inr ⟨_, zn_331⟩) dX0_byTurns_21 (fun v6 => ?_)
  refine rV_I (as := [.int (v6)]) (c_X7_behind w S _ _ _) mv_X7_behind rfl zg_951 (by decide) (Nat.le_of_ble_eq_true rfl) dX0_byTurns_24 (fun v7 => ?_)
  refine r_putI (TX := TX7) zc7 (by decide) rfl rfl rfl rfl (Or.inr ⟨_, zn_331⟩) dX0_byTurns_27 (fun M8 => ?_)
  refine aj_aload_n (1) dX0_byTurns_30 rfl rfl ?_
  refine r_getI (TX := TX7) zc7 (by decide) rfl (Or.inr ⟨_, zn_331⟩) dX0_byTurns_31 (fun v9 => ?_)
  refine aj_istore_n (ls2 := [(2, .int (v9)), (0, .ref (p0)), (1, .ref (p1))]) dX0_byTurns_34 rfl (Nat.le_of_ble_eq_true rfl) rfl ?_
  refine aj_iconst (v := (0 : Int32)) dX0_byTurns_35 (by decide) ?_
  refine aj_istore_n (ls2 := [(3, .int ((0 : Int32))), (2, .int (v9)), (0, .ref (p0)), (1, .ref (p1))]) dX0_byTurns_36 rfl (Nat.le_of_ble_eq_true rfl) rfl ?_
  refine aj_iconst (v := (0 : Int32)) dX0_byTurns_37 (by decide) ?_
  refine aj_istore (ls2 := [(4, .int ((0 : Int32))), (3, .int ((0 : Int32))), (2, .int (v9)), (0, .ref (p0)), (1, .ref (p1))]) dX0_byTurns_38 (Nat.le_of_ble_eq_true rfl) rfl ?_
  refine AJ.sub [3, 4, 2, 1, 0] rfl ?_
  exact t_X0_byTurns_40 w S zfu (p0) (p1) (v9) ((0 : Int32)) ((0 : Int32)) M8
def gX0_lengthBy (S : List (Nat × Nat)) (p0 : Nat) (p1 : Nat) (x2 : Int32) (M : zM) : Option (Int32 × zM) := zrc S (p0) 0 6 (zb2 (gX0_worth S (p0) (p1) ((0 : Int32)) (x2) M) (fun w1 M2 => zgR S M2 (p0) 0 6 1 (fun r3 => zrc S (r3) 5 1 ((gX5_get S (r3) (x2) M2).bind (fun v4 => (gX0_bounded S (w1) ((0 : Int32)) ((24 : Int32)) (((24 : Int32) - v4)) M2).bind (fun v5 => some (v5, M2)))))))
set_option maxHeartbeats 4000000 in
set_option maxRecDepth 100000 in
theorem c_X0_lengthBy (w : zWd) (S : List (Nat × Nat)) (p0 : Nat) (p1 : Nat) (x2 : Int32) (M : zM) : CT (zfIM S) w 5 mX0_lengthBy [.ref (p0), .ref (p1), .int (x2)] (S, M) (gX0_lengthBy S p0 p1 x2 M) := by
  refine CT.of (by decide) (Nat.le_of_ble_eq_true rfl) ?_
  show AJ _ _ _ _ 0 [(0, .ref (p0)), (1, .ref (p1)), (2, .int (x2))] [] _ _
  unfold gX0_lengthBy
  refine aj_aload_n (0) dX0_lengthBy_0 rfl rfl ?_
  refine aj_aload_n (1) dX0_lengthBy_1 rfl rfl ?_
  refine aj_iconst (v := (0 : Int32)) dX0_lengthBy_2 (by decide) ?_
  refine aj_iload_n (2) dX0_lengthBy_3 rfl rfl ?_
  refine rV_JM (as := [.ref (p1), .int ((0 : Int32)), .int (x2)]) (c_X0_worth w S _ _ _ _ _) mv_X0_worth rfl zg_892 (by decide) (Nat.le_of_ble_eq_true rfl) dX0_lengthBy_4 (fun w1 M2 => ?_)
  refine aj_iconst (v := (0 : Int32)) dX0_lengthBy_7 (by decide) ?_
  refine aj_bipush (v := (24 : Int32)) dX0_lengthBy_8 (by decide) ?_
  refine aj_bipush (v := (24 : Int32)) dX0_lengthBy_10 (by decide) ?_
  refine aj_aload_n (0) dX0_lengthBy_12 rfl rfl ?_
  refine aj_getR (TX := TX0) zc0 (by decide) rfl (Or.inl zg_418) dX0_lengthBy_13 (fun r3 => ?_)
  refine aj_iload_n (2) dX0_lengthBy_16 rfl rfl ?_
  refine rV_I (as := [.int (x2)]) (c_X5_get w S _ _ _) mv_X5_get rfl zg_862 (by decide) (Nat.le_of_ble_eq_true rfl) dX0_lengthBy_17 (fun v4 => ?_)
  refine aj_isub dX0_lengthBy_20 ?_
  refine rS_I (as := [.long (w1), .int ((0 : Int32)), .int ((24 : Int32)), .int (((24 : Int32) - v4))]) (c_X0_bounded w S _ _ _ _ _) ms_X0_bounded rfl zg_893 (by decide) (Nat.le_of_ble_eq_true rfl) dX0_lengthBy_21 (fun v5 => ?_)
  exact aj_iret dX0_lengthBy_24 rfl rfl rfl
def gX0_dayGoes_47 (S : List (Nat × Nat)) (p0 : Nat) (p1 : Nat) (x2 : Int32) (M : zM) : Option zM := (if x2 = (-1 : Int32) then zpI S M (p1) 7 15 9 ((-1 : Int32)) (fun M12 => zgI S M12 (p1) 7 15 7 (fun v13 => zpI S M12 (p1) 7 15 7 ((v13 + (1 : Int32))) (fun M14 => zpI S M14 (p1) 7 15 3 ((-1 : Int32)) (fun M15 => zgI S M15 (p1) 7 15 0 (fun v16 => zpI S M15 (p1) 7 15 0 ((v16 + (1 : Int32))) (fun M17 => some M17)))))) else zrc S (p0) 0 6 (zb2 (gX0_lengthBy S (p0) (p1) (x2) M) (fun v1 M2 => zrc S (p0) 0 6 (zb2 (gX0_worth S (p0) (p1) ((1 : Int32)) (x2) M2) (fun w3 M4 => (gX0_bounded S (w3) ((-9 : Int32)) ((9 : Int32)) ((1 : Int32)) M4).bind (fun v5 => zrc S (p1) 7 15 ((gX7_opens S (p1) (x2) (v1) (v5) M4).bind (fun M6 => zgR S M6 (p0) 0 6 0 (fun r7 => zrc S (p1) 7 15 ((gX7_bringOn S (p1) (r7) (v1) M6).bind (fun M8 => zpI S M8 (p1) 7 15 3 ((-1 : Int32)) (fun M9 => zgI S M9 (p1) 7 15 0 (fun v10 => zpI S M9 (p1) 7 15 0 ((v10 + (1 : Int32))) (fun M11 => some M11))))))))))))))
set_option maxHeartbeats 4000000 in
set_option maxRecDepth 100000 in
theorem t_X0_dayGoes_47 (w : zWd) (S : List (Nat × Nat)) (p0 : Nat) (p1 : Nat) (x2 : Int32) (M : zM) : AJ (zfVM S) w 6 mX0_dayGoes 47 [(0, .ref (p0)), (1, .ref (p1)), (2, .int (x2))] [] (S, M) (gX0_dayGoes_47 S p0 p1 x2 M) := by
  unfold gX0_dayGoes_47
  refine aj_iload_n (2) dX0_dayGoes_47 rfl rfl ?_
  refine aj_iconst (v := (-1 : Int32)) dX0_dayGoes_48 (by decide) ?_
  refine aj_icmp_ne (tgt := 70) dX0_dayGoes_49 (by decide) (fun h => ?_) (fun h => ?_)
  · refine aj_aload_n (0) dX0_dayGoes_70 rfl rfl ?_
    refine aj_aload_n (1) dX0_dayGoes_71 rfl rfl ?_
    refine aj_iload_n (2) dX0_dayGoes_72 rfl rfl ?_
    refine rV_IM (as := [.ref (p1), .int (x2)]) (c_X0_lengthBy w S _ _ _ _) mv_X0_lengthBy rfl zg_955 (by decide) (Nat.le_of_ble_eq_true rfl) dX0_dayGoes_73 (fun v1 M2 => ?_)
    refine aj_istore_n (ls2 := [(3, .int (v1)), (0, .ref (p0)), (1, .ref (p1)), (2, .int (x2))]) dX0_dayGoes_76 rfl (Nat.le_of_ble_eq_true rfl) rfl ?_
    refine aj_aload_n (1) dX0_dayGoes_77 rfl rfl ?_
    refine aj_aload_n (2) dX0_dayGoes_78 rfl rfl ?_
    refine aj_iconst (v := (1 : Int32)) dX0_dayGoes_79 (by decide) ?_
    refine aj_iload_n (3) dX0_dayGoes_80 rfl rfl ?_
    refine rV_JM (as := [.ref (p1), .int ((1 : Int32)), .int (x2)]) (c_X0_worth w S _ _ _ _ _) mv_X0_worth rfl zg_892 (by decide) (Nat.le_of_ble_eq_true rfl) dX0_dayGoes_81 (fun w3 M4 => ?_)
    refine aj_bipush (v := (-9 : Int32)) dX0_dayGoes_84 (by decide) ?_
    refine aj_bipush (v := (9 : Int32)) dX0_dayGoes_86 (by decide) ?_
    refine aj_iconst (v := (1 : Int32)) dX0_dayGoes_88 (by decide) ?_
    refine rS_I (as := [.long (w3), .int ((-9 : Int32)), .int ((9 : Int32)), .int ((1 : Int32))]) (c_X0_bounded w S _ _ _ _ _) ms_X0_bounded rfl zg_893 (by decide) (Nat.le_of_ble_eq_true rfl) dX0_dayGoes_89 (fun v5 => ?_)
    refine aj_istore (ls2 := [(4, .int (v5)), (3, .int (v1)), (0, .ref (p0)), (1, .ref (p1)), (2, .int (x2))]) dX0_dayGoes_92 (Nat.le_of_ble_eq_true rfl) rfl ?_
    refine aj_aload_n (3) dX0_dayGoes_94 rfl rfl ?_
    refine aj_iload_n (4) dX0_dayGoes_95 rfl rfl ?_
    refine aj_iload_n (1) dX0_dayGoes_96 rfl rfl ?_
    refine aj_iload (0) dX0_dayGoes_97 rfl ?_
    refine rV_VM (as := [.int (x2), .int (v1), .int (v5)]) (c_X7_opens w S _ _ _ _ _) mv_X7_opens rfl zg_956 (by decide) (Nat.le_of_ble_eq_true rfl) dX0_dayGoes_99 (fun M6 => ?_)
    refine aj_aload_n (3) dX0_dayGoes_102 rfl rfl ?_
    refine aj_aload_n (2) dX0_dayGoes_103 rfl rfl ?_
    refine aj_getR (TX := TX0) zc0 (by decide) rfl (Or.inl zg_417) dX0_dayGoes_104 (fun r7 => ?_)
    refine aj_iload_n (1) dX0_dayGoes_107 rfl rfl ?_
    refine rV_VM (as := [.ref (r7), .int (v1)]) (c_X7_bringOn w S _ _ _ _) mv_X7_bringOn rfl zg_964 (by decide) (Nat.le_of_ble_eq_true rfl) dX0_dayGoes_108 (fun M8 => ?_)
    refine aj_aload_n (3) dX0_dayGoes_111 rfl rfl ?_
    refine aj_iconst (v := (-1 : Int32)) dX0_dayGoes_112 (by decide) ?_
    refine r_putI (TX := TX7) zc7 (by decide) rfl rfl rfl rfl (Or.inr ⟨_, zn_337⟩) dX0_dayGoes_113 (fun M9 => ?_)
    refine aj_aload_n (3) dX0_dayGoes_116 rfl rfl ?_
    refine aj_dup dX0_dayGoes_117 rfl ?_
    refine r_getI (TX := TX7) zc7 (by decide) rfl (Or.inr ⟨_, zn_328⟩) dX0_dayGoes_118 (fun v10 => ?_)
    refine aj_iconst (v := (1 : Int32)) dX0_dayGoes_121 (by decide) ?_
    refine aj_iadd dX0_dayGoes_122 ?_
    refine r_putI (TX := TX7) zc7 (by decide) rfl rfl rfl rfl (Or.inr ⟨_, zn_328⟩) dX0_dayGoes_123 (fun M11 => ?_)
    exact aj_vret dX0_dayGoes_126 rfl rfl
  refine aj_aload_n (1) dX0_dayGoes_52 rfl rfl ?_
  refine aj_iconst (v := (-1 : Int32)) dX0_dayGoes_53 (by decide) ?_
  refine r_putI (TX := TX7) zc7 (by decide) rfl rfl rfl rfl (Or.inr ⟨_, zn_356⟩) dX0_dayGoes_54 (fun M12 => ?_)
  refine aj_aload_n (1) dX0_dayGoes_57 rfl rfl ?_
  refine aj_dup dX0_dayGoes_58 rfl ?_
  refine r_getI (TX := TX7) zc7 (by decide) rfl (Or.inr ⟨_, zn_351⟩) dX0_dayGoes_59 (fun v13 => ?_)
  refine aj_iconst (v := (1 : Int32)) dX0_dayGoes_62 (by decide) ?_
  refine aj_iadd dX0_dayGoes_63 ?_
  refine r_putI (TX := TX7) zc7 (by decide) rfl rfl rfl rfl (Or.inr ⟨_, zn_351⟩) dX0_dayGoes_64 (fun M14 => ?_)
  refine aj_goto (tgt := 111) dX0_dayGoes_67 (by decide) ?_
  refine aj_aload_n (1) dX0_dayGoes_111 rfl rfl ?_
  refine aj_iconst (v := (-1 : Int32)) dX0_dayGoes_112 (by decide) ?_
  refine r_putI (TX := TX7) zc7 (by decide) rfl rfl rfl rfl (Or.inr ⟨_, zn_337⟩) dX0_dayGoes_113 (fun M15 => ?_)
  refine aj_aload_n (1) dX0_dayGoes_116 rfl rfl ?_
  refine aj_dup dX0_dayGoes_117 rfl ?_
  refine r_getI (TX := TX7) zc7 (by decide) rfl (Or.inr ⟨_, zn_328⟩) dX0_dayGoes_118 (fun v16 => ?_)
  refine aj_iconst (v := (1 : Int32)) dX0_dayGoes_121 (by decide) ?_
  refine aj_iadd dX0_dayGoes_122 ?_
  refine r_putI (TX := TX7) zc7 (by decide) rfl rfl rfl rfl (Or.inr ⟨_, zn_328⟩) dX0_dayGoes_123 (fun M17 => ?_)
  exact aj_vret dX0_dayGoes_126 rfl rfl
def gX0_dayGoes (S : List (Nat × Nat)) (p0 : Nat) (p1 : Nat) (M : zM) : Option zM := zgI S M (p1) 7 15 3 (fun v1 => (if v1 = (-1 : Int32) then zgI S M (p0) 0 6 3 (fun v5 => (if v5 = 0 then (if v1 = (-1 : Int32) then zgI S M (p1) 7 15 10 (fun v6 => (if v6 ≤ 0 then gX0_dayGoes_47 S (p0) (p1) (v1) M else zrc S (p0) 0 6 (zb2 (gX0_byTurns S (p0) (p1) M) (fun v7 M8 => gX0_dayGoes_47 S (p0) (p1) (v7) M8)))) else gX0_dayGoes_47 S (p0) (p1) (v1) M) else zgR S M (p0) 0 6 0 (fun r9 => zgI S M (p1) 7 15 0 (fun v10 => zrc S (r9) 10 18 ((gX10_claimant S (r9) (v10) M).bind (fun v11 => (if v11 = (-1 : Int32) then zgI S M (p1) 7 15 10 (fun v12 => (if v12 ≤ 0 then gX0_dayGoes_47 S (p0) (p1) (v11) M else zrc S (p0) 0 6 (zb2 (gX0_byTurns S (p0) (p1) M) (fun v13 M14 => gX0_dayGoes_47 S (p0) (p1) (v13) M14)))) else gX0_dayGoes_47 S (p0) (p1) (v11) M))))))) else (if v1 = (-1 : Int32) then zgI S M (p1) 7 15 10 (fun v2 => (if v2 ≤ 0 then gX0_dayGoes_47 S (p0) (p1) (v1) M else zrc S (p0) 0 6 (zb2 (gX0_byTurns S (p0) (p1) M) (fun v3 M4 => gX0_dayGoes_47 S (p0) (p1) (v3) M4)))) else gX0_dayGoes_47 S (p0) (p1) (v1) M)))
set_option maxHeartbeats 4000000 in
set_option maxRecDepth 100000 in
theorem c_X0_dayGoes (w : zWd) (S : List (Nat × Nat)) (p0 : Nat) (p1 : Nat) (M : zM) : CT (zfVM S) w 6 mX0_dayGoes [.ref (p0), .ref (p1)] (S, M) (gX0_dayGoes S p0 p1 M) := by
  refine CT.of (by decide) (Nat.le_of_ble_eq_true rfl) ?_
  show AJ _ _ _ _ 0 [(0, .ref (p0)), (1, .ref (p1))] [] _ _
  unfold gX0_dayGoes
  refine aj_aload_n (1) dX0_dayGoes_0 rfl rfl ?_
  refine r_getI (TX := TX7) zc7 (by decide) rfl (Or.inr ⟨_, zn_337⟩) dX0_dayGoes_1 (fun v1 => ?_)
  refine aj_istore_n (ls2 := [(2, .int (v1)), (0, .ref (p0)), (1, .ref (p1))]) dX0_dayGoes_4 rfl (Nat.le_of_ble_eq_true rfl) rfl ?_
  refine aj_iload_n (0) dX0_dayGoes_5 rfl rfl ?_
  refine aj_iconst (v := (-1 : Int32)) dX0_dayGoes_6 (by decide) ?_
  refine aj_icmp_ne (tgt := 29) dX0_dayGoes_7 (by decide) (fun h => ?_) (fun h => ?_)
  · refine aj_iload_n (0) dX0_dayGoes_29 rfl rfl ?_
    refine aj_iconst (v := (-1 : Int32)) dX0_dayGoes_30 (by decide) ?_
    refine aj_icmp_ne (tgt := 47) dX0_dayGoes_31 (by decide) (fun h => ?_) (fun h => ?_)
    · refine AJ.sub [1, 2, 0] rfl ?_
      exact t_X0_dayGoes_47 w S (p0) (p1) (v1) M
    refine aj_aload_n (2) dX0_dayGoes_34 rfl rfl ?_
    refine r_getI (TX := TX7) zc7 (by decide) rfl (Or.inr ⟨_, zn_360⟩) dX0_dayGoes_35 (fun v2 => ?_)
    refine aj_if_le (tgt := 47) dX0_dayGoes_38 (by decide) (fun h => ?_) (fun h => ?_)
    · refine AJ.sub [1, 2, 0] rfl ?_
      exact t_X0_dayGoes_47 w S (p0) (p1) (v1) M
    refine aj_aload_n (1) dX0_dayGoes_41 rfl rfl ?_
    refine aj_aload_n (2) dX0_dayGoes_42 rfl rfl ?_
    refine rV_IM (as := [.ref (p1)]) (c_X0_byTurns w S _ _ _) mv_X0_byTurns rfl zg_936 (by decide) (Nat.le_of_ble_eq_true rfl) dX0_dayGoes_43 (fun v3 M4 => ?_)
    refine aj_istore_n (ls2 := [(2, .int (v3)), (0, .ref (p0)), (1, .ref (p1))]) dX0_dayGoes_46 rfl (Nat.le_of_ble_eq_true rfl) rfl ?_
    refine AJ.sub [1, 2, 0] rfl ?_
    exact t_X0_dayGoes_47 w S (p0) (p1) (v3) M4
  refine aj_aload_n (1) dX0_dayGoes_10 rfl rfl ?_
  refine r_getI (TX := TX0) zc0 (by decide) rfl (Or.inl zg_422) dX0_dayGoes_11 (fun v5 => ?_)
  refine aj_if_eq (tgt := 29) dX0_dayGoes_14 (by decide) (fun h => ?_) (fun h => ?_)
  · refine aj_iload_n (0) dX0_dayGoes_29 rfl rfl ?_
    refine aj_iconst (v := (-1 : Int32)) dX0_dayGoes_30 (by decide) ?_
    refine aj_icmp_ne (tgt := 47) dX0_dayGoes_31 (by decide) (fun h => ?_) (fun h => ?_)
    · refine AJ.sub [1, 2, 0] rfl ?_
      exact t_X0_dayGoes_47 w S (p0) (p1) (v1) M
    refine aj_aload_n (2) dX0_dayGoes_34 rfl rfl ?_
    refine r_getI (TX := TX7) zc7 (by decide) rfl (Or.inr ⟨_, zn_360⟩) dX0_dayGoes_35 (fun v6 => ?_)
    refine aj_if_le (tgt := 47) dX0_dayGoes_38 (by decide) (fun h => ?_) (fun h => ?_)
    · refine AJ.sub [1, 2, 0] rfl ?_
      exact t_X0_dayGoes_47 w S (p0) (p1) (v1) M
    refine aj_aload_n (1) dX0_dayGoes_41 rfl rfl ?_
    refine aj_aload_n (2) dX0_dayGoes_42 rfl rfl ?_
    refine rV_IM (as := [.ref (p1)]) (c_X0_byTurns w S _ _ _) mv_X0_byTurns rfl zg_936 (by decide) (Nat.le_of_ble_eq_true rfl) dX0_dayGoes_43 (fun v7 M8 => ?_)
    refine aj_istore_n (ls2 := [(2, .int (v7)), (0, .ref (p0)), (1, .ref (p1))]) dX0_dayGoes_46 rfl (Nat.le_of_ble_eq_true rfl) rfl ?_
    refine AJ.sub [1, 2, 0] rfl ?_
    exact t_X0_dayGoes_47 w S (p0) (p1) (v7) M8
  refine aj_aload_n (1) dX0_dayGoes_17 rfl rfl ?_
  refine aj_getR (TX := TX0) zc0 (by decide) rfl (Or.inl zg_417) dX0_dayGoes_18 (fun r9 => ?_)
  refine aj_aload_n (2) dX0_dayGoes_21 rfl rfl ?_
  refine r_getI (TX := TX7) zc7 (by decide) rfl (Or.inr ⟨_, zn_328⟩) dX0_dayGoes_22 (fun v10 => ?_)
  refine rV_I (as := [.int (v10)]) (c_X10_claimant w S _ _ _) mv_X10_claimant rfl zg_935 (by decide) (Nat.le_of_ble_eq_true rfl) dX0_dayGoes_25 (fun v11 => ?_)
  refine aj_istore_n (ls2 := [(2, .int (v11)), (0, .ref (p0)), (1, .ref (p1))]) dX0_dayGoes_28 rfl (Nat.le_of_ble_eq_true rfl) rfl ?_
  refine aj_iload_n (0) dX0_dayGoes_29 rfl rfl ?_
  refine aj_iconst (v := (-1 : Int32)) dX0_dayGoes_30 (by decide) ?_
  refine aj_icmp_ne (tgt := 47) dX0_dayGoes_31 (by decide) (fun h => ?_) (fun h => ?_)
  · refine AJ.sub [1, 2, 0] rfl ?_
    exact t_X0_dayGoes_47 w S (p0) (p1) (v11) M
  refine aj_aload_n (2) dX0_dayGoes_34 rfl rfl ?_
  refine r_getI (TX := TX7) zc7 (by decide) rfl (Or.inr ⟨_, zn_360⟩) dX0_dayGoes_35 (fun v12 => ?_)
  refine aj_if_le (tgt := 47) dX0_dayGoes_38 (by decide) (fun h => ?_) (fun h => ?_)
  · refine AJ.sub [1, 2, 0] rfl ?_
    exact t_X0_dayGoes_47 w S (p0) (p1) (v11) M
  refine aj_aload_n (1) dX0_dayGoes_41 rfl rfl ?_
  refine aj_aload_n (2) dX0_dayGoes_42 rfl rfl ?_
  refine rV_IM (as := [.ref (p1)]) (c_X0_byTurns w S _ _ _) mv_X0_byTurns rfl zg_936 (by decide) (Nat.le_of_ble_eq_true rfl) dX0_dayGoes_43 (fun v13 M14 => ?_)
  refine aj_istore_n (ls2 := [(2, .int (v13)), (0, .ref (p0)), (1, .ref (p1))]) dX0_dayGoes_46 rfl (Nat.le_of_ble_eq_true rfl) rfl ?_
  refine AJ.sub [1, 2, 0] rfl ?_
  exact t_X0_dayGoes_47 w S (p0) (p1) (v13) M14
def gX0_daysGo_2 (S : List (Nat × Nat)) : Nat → Nat → Nat → Int32 → Int32 → zM → Option zM
  | 0 => fun _ _ _ _ _ => none
  | n + 1 => fun p0 p1 x2 x3 M => (if x2 ≤ x3 then some M else zrc S (p0) 0 6 ((gX0_dayGoes S (p0) (p1) M).bind (fun M1 => (gX0_daysGo_2 S   n) (p0) (p1) (x2) ((x3 + (1 : Int32))) M1)))
set_option maxHeartbeats 4000000 in
set_option maxRecDepth 100000 in
theorem t_X0_daysGo_2 (w : zWd) (S : List (Nat × Nat)) (fu : Nat) : ∀ (p0 : Nat) (p1 : Nat) (x2 : Int32) (x3 : Int32) (M : zM), AJ (zfVM S) w 7 mX0_daysGo 2 [(0, .ref (p0)), (1, .ref (p1)), (2, .int (x2)), (3, .int (x3))] [] (S, M) (gX0_daysGo_2 S fu p0 p1 x2 x3 M) := by
  induction fu with
  | zero => intro p0 p1 x2 x3 M; exact AJ.none
  | succ n ih =>
    intro p0 p1 x2 x3 M
    unfold gX0_daysGo_2
    refine aj_iload_n (3) dX0_daysGo_2 rfl rfl ?_
    refine aj_iload_n (2) dX0_daysGo_3 rfl rfl ?_
    refine aj_icmp_ge (tgt := 18) dX0_daysGo_4 (by decide) (fun h => ?_) (fun h => ?_)
    · exact aj_vret dX0_daysGo_18 rfl rfl
    refine aj_aload_n (0) dX0_daysGo_7 rfl rfl ?_
    refine aj_aload_n (1) dX0_daysGo_8 rfl rfl ?_
    refine rV_VM (as := [.ref (p1)]) (c_X0_dayGoes w S _ _ _) mv_X0_dayGoes rfl zg_931 (by decide) (Nat.le_of_ble_eq_true rfl) dX0_daysGo_9 (fun M1 => ?_)
    refine aj_iinc (j := 3) (v := (x3 + (1 : Int32))) (ls2 := [(3, .int ((x3 + (1 : Int32)))), (0, .ref (p0)), (1, .ref (p1)), (2, .int (x2))]) dX0_daysGo_12 rfl rfl (Nat.le_of_ble_eq_true rfl) rfl ?_
    refine aj_goto (tgt := 2) dX0_daysGo_15 (by decide) ?_
    refine AJ.sub [1, 2, 3, 0] rfl ?_
    exact ih (p0) (p1) (x2) ((x3 + (1 : Int32))) M1
def gX0_daysGo (S : List (Nat × Nat)) (p0 : Nat) (p1 : Nat) (x2 : Int32) (M : zM) : Option zM := gX0_daysGo_2 S zfu (p0) (p1) (x2) ((0 : Int32)) M
set_option maxHeartbeats 4000000 in
set_option maxRecDepth 100000 in
theorem c_X0_daysGo (w : zWd) (S : List (Nat × Nat)) (p0 : Nat) (p1 : Nat) (x2 : Int32) (M : zM) : CT (zfVM S) w 7 mX0_daysGo [.ref (p0), .ref (p1), .int (x2)] (S, M) (gX0_daysGo S p0 p1 x2 M) := by
  refine CT.of (by decide) (Nat.le_of_ble_eq_true rfl) ?_
  show AJ _ _ _ _ 0 [(0, .ref (p0)), (1, .ref (p1)), (2, .int (x2))] [] _ _
  unfold gX0_daysGo
  refine aj_iconst (v := (0 : Int32)) dX0_daysGo_0 (by decide) ?_
  refine aj_istore_n (ls2 := [(3, .int ((0 : Int32))), (0, .ref (p0)), (1, .ref (p1)), (2, .int (x2))]) dX0_daysGo_1 rfl (Nat.le_of_ble_eq_true rfl) rfl ?_
  refine AJ.sub [1, 2, 3, 0] rfl ?_
  exact t_X0_daysGo_2 w S zfu (p0) (p1) (x2) ((0 : Int32)) M
