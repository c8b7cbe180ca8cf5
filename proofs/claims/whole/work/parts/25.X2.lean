/-! DayOpeners$Notes: functions of its methods and their contracts: written by wip/whole/gen/dec.py -/
def gX2_init (p0 : Nat) (S : List (Nat × Nat)) (M : zM) : Option zH := znew S M 5 1 (fun S1 M2 r3 => zmk2 S1 (gX5_init (r3) ((24 : Int32)) S1 M2) (fun S4 M5 => zpR S4 M5 (p0) 2 10 0 (some (r3)) (fun M6 => znew S4 M6 5 1 (fun S7 M8 r9 => zmk2 S7 (gX5_init (r9) ((24 : Int32)) S7 M8) (fun S10 M11 => zpR S10 M11 (p0) 2 10 1 (some (r9)) (fun M12 => znew S10 M12 5 1 (fun S13 M14 r15 => zmk2 S13 (gX5_init (r15) ((24 : Int32)) S13 M14) (fun S16 M17 => zpR S16 M17 (p0) 2 10 2 (some (r15)) (fun M18 => znew S16 M18 5 1 (fun S19 M20 r21 => zmk2 S19 (gX5_init (r21) ((24 : Int32)) S19 M20) (fun S22 M23 => zpR S22 M23 (p0) 2 10 3 (some (r21)) (fun M24 => znew S22 M24 5 1 (fun S25 M26 r27 => zmk2 S25 (gX5_init (r27) ((1440 : Int32)) S25 M26) (fun S28 M29 => zpR S28 M29 (p0) 2 10 4 (some (r27)) (fun M30 => znew S28 M30 5 1 (fun S31 M32 r33 => zmk2 S31 (gX5_init (r33) ((25 : Int32)) S31 M32) (fun S34 M35 => zpR S34 M35 (p0) 2 10 5 (some (r33)) (fun M36 => zpI S34 M36 (p0) 2 10 7 ((-1 : Int32)) (fun M37 => some (S34, M37))))))))))))))))))))
set_option maxHeartbeats 4000000 in
set_option maxRecDepth 100000 in
theorem c_X2_init (w : zWd) (hz : zSZ w) (hg : w.2.2.2.2.2 = 0) (p0 : Nat) (S : List (Nat × Nat)) (M : zM) : CT zfC w 3 mX2_init [.ref (p0)] (S, M) (gX2_init p0 S M) := by
  refine CT.of (by decide) (Nat.le_of_ble_eq_true rfl) ?_
  show AJ _ _ _ _ 0 [(0, .ref (p0))] [] _ _
  unfold gX2_init
  refine aj_aload_n (0) dX2_init_0 rfl rfl ?_
  refine aj_obj zg_443 zg_31 zg_32 (by decide) (Nat.le_of_ble_eq_true rfl) dX2_init_1 ?_
  refine aj_aload_n (0) dX2_init_4 rfl rfl ?_
  refine r_new (TX := TX5) hg zc5 zg_444 zg_34 zg_2 dX2_init_5 (fun S1 M2 r3 => ?_)
  refine aj_dup dX2_init_8 rfl ?_
  refine aj_bipush (v := (24 : Int32)) dX2_init_9 (by decide) ?_
  refine rC (as := [.int ((24 : Int32))]) hg (c_X5_init w hz hg _ _ _ _) mc_X5_init rfl (Or.inl zg_445) (by decide) (Nat.le_of_ble_eq_true rfl) dX2_init_11 (fun S4 M5 => ?_)
  refine r_putR (TX := TX2) zc2 (by decide) rfl (Or.inr ⟨rfl, rfl, rfl, zg_446⟩) (Or.inl zg_446) dX2_init_14 (fun M6 => ?_)
  refine aj_aload_n (0) dX2_init_17 rfl rfl ?_
  refine r_new (TX := TX5) hg zc5 zg_444 zg_34 zg_2 dX2_init_18 (fun S7 M8 r9 => ?_)
  refine aj_dup dX2_init_21 rfl ?_
  refine aj_bipush (v := (24 : Int32)) dX2_init_22 (by decide) ?_
  refine rC (as := [.int ((24 : Int32))]) hg (c_X5_init w hz hg _ _ _ _) mc_X5_init rfl (Or.inl zg_445) (by decide) (Nat.le_of_ble_eq_true rfl) dX2_init_24 (fun S10 M11 => ?_)
  refine r_putR (TX := TX2) zc2 (by decide) rfl (Or.inr ⟨rfl, rfl, rfl, zg_447⟩) (Or.inl zg_447) dX2_init_27 (fun M12 => ?_)
  refine aj_aload_n (0) dX2_init_30 rfl rfl ?_
  refine r_new (TX := TX5) hg zc5 zg_444 zg_34 zg_2 dX2_init_31 (fun S13 M14 r15 => ?_)
  refine aj_dup dX2_init_34 rfl ?_
  refine aj_bipush (v := (24 : Int32)) dX2_init_35 (by decide) ?_
  refine rC (as := [.int ((24 : Int32))]) hg (c_X5_init w hz hg _ _ _ _) mc_X5_init rfl (Or.inl zg_445) (by decide) (Nat.le_of_ble_eq_true rfl) dX2_init_37 (fun S16 M17 => ?_)
  refine r_putR (TX := TX2) zc2 (by decide) rfl (Or.inr ⟨rfl, rfl, rfl, zg_448⟩) (Or.inl zg_448) dX2_init_40 (fun M18 => ?_)
  refine aj_aload_n (0) dX2_init_43 rfl rfl ?_
  refine r_new (TX := TX5) hg zc5 zg_444 zg_34 zg_2 dX2_init_44 (fun S19 M20 r21 => ?_)
  refine aj_dup dX2_init_47 rfl ?_
  refine aj_bipush (v := (24 : Int32)) dX2_init_48 (by decide) ?_
  refine rC (as := [.int ((24 : Int32))]) hg (c_X5_init w hz hg _ _ _ _) mc_X5_init rfl (Or.inl zg_445) (by decide) (Nat.le_of_ble_eq_true rfl) dX2_init_50 (fun S22 M23 => ?_)
  refine r_putR (TX := TX2) zc2 (by decide) rfl (Or.inr ⟨rfl, rfl, rfl, zg_449⟩) (Or.inl zg_449) dX2_init_53 (fun M24 => ?_)
  refine aj_aload_n (0) dX2_init_56 rfl rfl ?_
  refine r_new (TX := TX5) hg zc5 zg_444 zg_34 zg_2 dX2_init_57 (fun S25 M26 r27 => ?_)
  refine aj_dup dX2_init_60 rfl ?_
  refine aj_sipush (v := (1440 : Int32)) dX2_init_61 (by decide) ?_
  refine rC (as := [.int ((1440 : Int32))]) hg (c_X5_init w hz hg _ _ _ _) mc_X5_init rfl (Or.inl zg_445) (by decide) (Nat.le_of_ble_eq_true rfl) dX2_init_64 (fun S28 M29 => ?_)
  refine r_putR (TX := TX2) zc2 (by decide) rfl (Or.inr ⟨rfl, rfl, rfl, zg_450⟩) (Or.inl zg_450) dX2_init_67 (fun M30 => ?_)
  refine aj_aload_n (0) dX2_init_70 rfl rfl ?_
  refine r_new (TX := TX5) hg zc5 zg_444 zg_34 zg_2 dX2_init_71 (fun S31 M32 r33 => ?_)
  refine aj_dup dX2_init_74 rfl ?_
  refine aj_bipush (v := (25 : Int32)) dX2_init_75 (by decide) ?_
  refine rC (as := [.int ((25 : Int32))]) hg (c_X5_init w hz hg _ _ _ _) mc_X5_init rfl (Or.inl zg_445) (by decide) (Nat.le_of_ble_eq_true rfl) dX2_init_77 (fun S34 M35 => ?_)
  refine r_putR (TX := TX2) zc2 (by decide) rfl (Or.inr ⟨rfl, rfl, rfl, zg_451⟩) (Or.inl zg_451) dX2_init_80 (fun M36 => ?_)
  refine aj_aload_n (0) dX2_init_83 rfl rfl ?_
  refine aj_iconst (v := (-1 : Int32)) dX2_init_84 (by decide) ?_
  refine r_putI (TX := TX2) zc2 (by decide) rfl rfl rfl rfl (Or.inl zg_454) dX2_init_85 (fun M37 => ?_)
  exact aj_vret dX2_init_88 rfl rfl
def gX2_clear (S : List (Nat × Nat)) (p0 : Nat) (M : zM) : Option zM := zpI S M (p0) 2 10 6 ((0 : Int32)) (fun M1 => zpI S M1 (p0) 2 10 7 ((-1 : Int32)) (fun M2 => some M2))
set_option maxHeartbeats 4000000 in
set_option maxRecDepth 100000 in
theorem c_X2_clear (w : zWd) (S : List (Nat × Nat)) (p0 : Nat) (M : zM) : CT (zfVM S) w 1 mX2_clear [.ref (p0)] (S, M) (gX2_clear S p0 M) := by
  refine CT.of (by decide) (Nat.le_of_ble_eq_true rfl) ?_
  show AJ _ _ _ _ 0 [(0, .ref (p0))] [] _ _
  unfold gX2_clear
  refine aj_aload_n (0) dX2_clear_0 rfl rfl ?_
  refine aj_iconst (v := (0 : Int32)) dX2_clear_1 (by decide) ?_
  refine r_putI (TX := TX2) zc2 (by decide) rfl rfl rfl rfl (Or.inl zg_452) dX2_clear_2 (fun M1 => ?_)
  refine aj_aload_n (0) dX2_clear_5 rfl rfl ?_
  refine aj_iconst (v := (-1 : Int32)) dX2_clear_6 (by decide) ?_
  refine r_putI (TX := TX2) zc2 (by decide) rfl rfl rfl rfl (Or.inl zg_454) dX2_clear_7 (fun M2 => ?_)
  exact aj_vret dX2_clear_10 rfl rfl
def gX2_add (S : List (Nat × Nat)) (p0 : Nat) (x1 : Int32) (x2 : Int32) (x3 : Int32) (M : zM) : Option (Int32 × zM) := zgI S M (p0) 2 10 6 (fun v1 => (if v1 < (24 : Int32) then zgR S M (p0) 2 10 0 (fun r2 => zgI S M (p0) 2 10 6 (fun v3 => zrc S (r2) 5 1 ((gX5_set S (r2) (v3) (x1) M).bind (fun M4 => zgR S M4 (p0) 2 10 1 (fun r5 => zgI S M4 (p0) 2 10 6 (fun v6 => zrc S (r5) 5 1 ((gX5_set S (r5) (v6) (x2) M4).bind (fun M7 => zgR S M7 (p0) 2 10 2 (fun r8 => zgI S M7 (p0) 2 10 6 (fun v9 => zrc S (r8) 5 1 ((gX5_set S (r8) (v9) (x3) M7).bind (fun M10 => zgI S M10 (p0) 2 10 6 (fun v11 => zpI S M10 (p0) 2 10 6 ((v11 + (1 : Int32))) (fun M12 => zgI S M12 (p0) 2 10 6 (fun v13 => some ((v13 - (1 : Int32)), M12)))))))))))))))) else some ((-1 : Int32), M)))
set_option maxHeartbeats 4000000 in
set_option maxRecDepth 100000 in
theorem c_X2_add (w : zWd) (S : List (Nat × Nat)) (p0 : Nat) (x1 : Int32) (x2 : Int32) (x3 : Int32) (M : zM) : CT (zfIM S) w 2 mX2_add [.ref (p0), .int (x1), .int (x2), .int (x3)] (S, M) (gX2_add S p0 x1 x2 x3 M) := by
  refine CT.of (by decide) (Nat.le_of_ble_eq_true rfl) ?_
  show AJ _ _ _ _ 0 [(0, .ref (p0)), (1, .int (x1)), (2, .int (x2)), (3, .int (x3))] [] _ _
  unfold gX2_add
  refine aj_aload_n (0) dX2_add_0 rfl rfl ?_
  refine r_getI (TX := TX2) zc2 (by decide) rfl (Or.inl zg_452) dX2_add_1 (fun v1 => ?_)
  refine aj_bipush (v := (24 : Int32)) dX2_add_4 (by decide) ?_
  refine aj_icmp_lt (tgt := 11) dX2_add_6 (by decide) (fun h => ?_) (fun h => ?_)
  · refine aj_aload_n (0) dX2_add_11 rfl rfl ?_
    refine aj_getR (TX := TX2) zc2 (by decide) rfl (Or.inl zg_446) dX2_add_12 (fun r2 => ?_)
    refine aj_aload_n (0) dX2_add_15 rfl rfl ?_
    refine r_getI (TX := TX2) zc2 (by decide) rfl (Or.inl zg_452) dX2_add_16 (fun v3 => ?_)
    refine aj_iload_n (1) dX2_add_19 rfl rfl ?_
    refine rV_VM (as := [.int (v3), .int (x1)]) (c_X5_set w S _ _ _ _) mv_X5_set rfl zg_1147 (by decide) (Nat.le_of_ble_eq_true rfl) dX2_add_20 (fun M4 => ?_)
    refine aj_aload_n (0) dX2_add_23 rfl rfl ?_
    refine aj_getR (TX := TX2) zc2 (by decide) rfl (Or.inl zg_447) dX2_add_24 (fun r5 => ?_)
    refine aj_aload_n (0) dX2_add_27 rfl rfl ?_
    refine r_getI (TX := TX2) zc2 (by decide) rfl (Or.inl zg_452) dX2_add_28 (fun v6 => ?_)
    refine aj_iload_n (2) dX2_add_31 rfl rfl ?_
    refine rV_VM (as := [.int (v6), .int (x2)]) (c_X5_set w S _ _ _ _) mv_X5_set rfl zg_1147 (by decide) (Nat.le_of_ble_eq_true rfl) dX2_add_32 (fun M7 => ?_)
    refine aj_aload_n (0) dX2_add_35 rfl rfl ?_
    refine aj_getR (TX := TX2) zc2 (by decide) rfl (Or.inl zg_448) dX2_add_36 (fun r8 => ?_)
    refine aj_aload_n (0) dX2_add_39 rfl rfl ?_
    refine r_getI (TX := TX2) zc2 (by decide) rfl (Or.inl zg_452) dX2_add_40 (fun v9 => ?_)
    refine aj_iload_n (3) dX2_add_43 rfl rfl ?_
    refine rV_VM (as := [.int (v9), .int (x3)]) (c_X5_set w S _ _ _ _) mv_X5_set rfl zg_1147 (by decide) (Nat.le_of_ble_eq_true rfl) dX2_add_44 (fun M10 => ?_)
    refine aj_aload_n (0) dX2_add_47 rfl rfl ?_
    refine aj_dup dX2_add_48 rfl ?_
    refine r_getI (TX := TX2) zc2 (by decide) rfl (Or.inl zg_452) dX2_add_49 (fun v11 => ?_)
    refine aj_iconst (v := (1 : Int32)) dX2_add_52 (by decide) ?_
    refine aj_iadd dX2_add_53 ?_
    refine r_putI (TX := TX2) zc2 (by decide) rfl rfl rfl rfl (Or.inl zg_452) dX2_add_54 (fun M12 => ?_)
    refine aj_aload_n (0) dX2_add_57 rfl rfl ?_
    refine r_getI (TX := TX2) zc2 (by decide) rfl (Or.inl zg_452) dX2_add_58 (fun v13 => ?_)
    refine aj_iconst (v := (1 : Int32)) dX2_add_61 (by decide) ?_
    refine aj_isub dX2_add_62 ?_
    exact aj_iret dX2_add_63 rfl rfl rfl
  refine aj_iconst (v := (-1 : Int32)) dX2_add_9 (by decide) ?_
  exact aj_iret dX2_add_10 rfl rfl rfl
def gX2_byHowMany (S : List (Nat × Nat)) (p0 : Nat) (M : zM) : Option Int32 := zgI S M (p0) 2 10 7 (fun v1 => (if v1 = (-1 : Int32) then zgI S M (p0) 2 10 6 (fun v3 => some (v3)) else zgI S M (p0) 2 10 7 (fun v2 => some (v2))))
set_option maxHeartbeats 4000000 in
set_option maxRecDepth 100000 in
theorem c_X2_byHowMany (w : zWd) (S : List (Nat × Nat)) (p0 : Nat) (M : zM) : CT (zfI S M) w 1 mX2_byHowMany [.ref (p0)] (S, M) (gX2_byHowMany S p0 M) := by
  refine CT.of (by decide) (Nat.le_of_ble_eq_true rfl) ?_
  show AJ _ _ _ _ 0 [(0, .ref (p0))] [] _ _
  unfold gX2_byHowMany
  refine aj_aload_n (0) dX2_byHowMany_0 rfl rfl ?_
  refine r_getI (TX := TX2) zc2 (by decide) rfl (Or.inl zg_454) dX2_byHowMany_1 (fun v1 => ?_)
  refine aj_iconst (v := (-1 : Int32)) dX2_byHowMany_4 (by decide) ?_
  refine aj_icmp_ne (tgt := 15) dX2_byHowMany_5 (by decide) (fun h => ?_) (fun h => ?_)
  · refine aj_aload_n (0) dX2_byHowMany_15 rfl rfl ?_
    refine r_getI (TX := TX2) zc2 (by decide) rfl (Or.inl zg_454) dX2_byHowMany_16 (fun v2 => ?_)
    exact aj_iret dX2_byHowMany_19 rfl rfl rfl
  refine aj_aload_n (0) dX2_byHowMany_8 rfl rfl ?_
  refine r_getI (TX := TX2) zc2 (by decide) rfl (Or.inl zg_452) dX2_byHowMany_9 (fun v3 => ?_)
  refine aj_goto (tgt := 19) dX2_byHowMany_12 (by decide) ?_
  exact aj_iret dX2_byHowMany_19 rfl rfl rfl
def gX2_strikeOut_15 (S : List (Nat × Nat)) : Nat → Nat → Int32 → zM → Option zM
  | 0 => fun _ _ _ => none
  | n + 1 => fun p0 x1 M => (if x1 < 0 then some M else zgR S M (p0) 2 10 0 (fun r1 => zrc S (r1) 5 1 ((gX5_get S (r1) (x1) M).bind (fun v2 => (if v2 = (2 : Int32) then zgR S M (p0) 2 10 3 (fun r3 => zrc S (r3) 5 1 ((gX5_get S (r3) (x1) M).bind (fun v4 => (if v4 = 0 then zgR S M (p0) 2 10 3 (fun r5 => zgR S M (p0) 2 10 1 (fun r6 => zrc S (r6) 5 1 ((gX5_get S (r6) (x1) M).bind (fun v7 => zrc S (r5) 5 1 ((gX5_set S (r5) (v7) ((1 : Int32)) M).bind (fun M8 => (gX2_strikeOut_15 S   n) (p0) ((x1 + (-1 : Int32))) M8)))))) else (gX2_strikeOut_15 S   n) (p0) ((x1 + (-1 : Int32))) M)))) else (gX2_strikeOut_15 S   n) (p0) ((x1 + (-1 : Int32))) M)))))
set_option maxHeartbeats 4000000 in
set_option maxRecDepth 100000 in
theorem t_X2_strikeOut_15 (w : zWd) (S : List (Nat × Nat)) (fu : Nat) : ∀ (p0 : Nat) (x1 : Int32) (M : zM), AJ (zfVM S) w 2 mX2_strikeOut 15 [(0, .ref (p0)), (1, .int (x1))] [] (S, M) (gX2_strikeOut_15 S fu p0 x1 M) := by
  induction fu with
  | zero => intro p0 x1 M; exact AJ.none
  | succ n ih =>
    intro p0 x1 M
    unfold gX2_strikeOut_15
    refine aj_iload_n (1) dX2_strikeOut_15 rfl rfl ?_
    refine aj_if_lt (tgt := 64) dX2_strikeOut_16 (by decide) (fun h => ?_) (fun h => ?_)
    · exact aj_vret dX2_strikeOut_64 rfl rfl
    refine aj_aload_n (0) dX2_strikeOut_19 rfl rfl ?_
    refine aj_getR (TX := TX2) zc2 (by decide) rfl (Or.inl zg_446) dX2_strikeOut_20 (fun r1 => ?_)
    refine aj_iload_n (1) dX2_strikeOut_23 rfl rfl ?_
    refine rV_I (as := [.int (x1)]) (c_X5_get w S _ _ _) mv_X5_get rfl zg_1173 (by decide) (Nat.le_of_ble_eq_true rfl) dX2_strikeOut_24 (fun v2 => ?_)
    refine aj_iconst (v := (2 : Int32)) dX2_strikeOut_27 (by decide) ?_
    refine aj_icmp_ne (tgt := 58) dX2_strikeOut_28 (by decide) (fun h => ?_) (fun h => ?_)
    · refine aj_iinc (j := 1) (v := (x1 + (-1 : Int32))) (ls2 := [(1, .int ((x1 + (-1 : Int32)))), (0, .ref (p0))]) dX2_strikeOut_58 rfl rfl (Nat.le_of_ble_eq_true rfl) rfl ?_
      refine aj_goto (tgt := 15) dX2_strikeOut_61 (by decide) ?_
      refine AJ.sub [1, 0] rfl ?_
      exact ih (p0) ((x1 + (-1 : Int32))) M
    refine aj_aload_n (0) dX2_strikeOut_31 rfl rfl ?_
    refine aj_getR (TX := TX2) zc2 (by decide) rfl (Or.inl zg_449) dX2_strikeOut_32 (fun r3 => ?_)
    refine aj_iload_n (1) dX2_strikeOut_35 rfl rfl ?_
    refine rV_I (as := [.int (x1)]) (c_X5_get w S _ _ _) mv_X5_get rfl zg_1173 (by decide) (Nat.le_of_ble_eq_true rfl) dX2_strikeOut_36 (fun v4 => ?_)
    refine aj_if_ne (tgt := 58) dX2_strikeOut_39 (by decide) (fun h => ?_) (fun h => ?_)
    · refine aj_iinc (j := 1) (v := (x1 + (-1 : Int32))) (ls2 := [(1, .int ((x1 + (-1 : Int32)))), (0, .ref (p0))]) dX2_strikeOut_58 rfl rfl (Nat.le_of_ble_eq_true rfl) rfl ?_
      refine aj_goto (tgt := 15) dX2_strikeOut_61 (by decide) ?_
      refine AJ.sub [1, 0] rfl ?_
      exact ih (p0) ((x1 + (-1 : Int32))) M
    refine aj_aload_n (0) dX2_strikeOut_42 rfl rfl ?_
    refine aj_getR (TX := TX2) zc2 (by decide) rfl (Or.inl zg_449) dX2_strikeOut_43 (fun r5 => ?_)
    refine aj_aload_n (0) dX2_strikeOut_46 rfl rfl ?_
    refine aj_getR (TX := TX2) zc2 (by decide) rfl (Or.inl zg_447) dX2_strikeOut_47 (fun r6 => ?_)
    refine aj_iload_n (1) dX2_strikeOut_50 rfl rfl ?_
    refine rV_I (as := [.int (x1)]) (c_X5_get w S _ _ _) mv_X5_get rfl zg_1173 (by decide) (Nat.le_of_ble_eq_true rfl) dX2_strikeOut_51 (fun v7 => ?_)
    refine aj_iconst (v := (1 : Int32)) dX2_strikeOut_54 (by decide) ?_
    refine rV_VM (as := [.int (v7), .int ((1 : Int32))]) (c_X5_set w S _ _ _ _) mv_X5_set rfl zg_1147 (by decide) (Nat.le_of_ble_eq_true rfl) dX2_strikeOut_55 (fun M8 => ?_)
    refine aj_iinc (j := 1) (v := (x1 + (-1 : Int32))) (ls2 := [(1, .int ((x1 + (-1 : Int32)))), (0, .ref (p0))]) dX2_strikeOut_58 rfl rfl (Nat.le_of_ble_eq_true rfl) rfl ?_
    refine aj_goto (tgt := 15) dX2_strikeOut_61 (by decide) ?_
    refine AJ.sub [1, 0] rfl ?_
    exact ih (p0) ((x1 + (-1 : Int32))) M8
def gX2_strikeOut (S : List (Nat × Nat)) (p0 : Nat) (M : zM) : Option zM := zgR S M (p0) 2 10 3 (fun r1 => zrc S (r1) 5 1 ((gX5_fill S (r1) ((0 : Int32)) M).bind (fun M2 => zrc S (p0) 2 10 ((gX2_byHowMany S (p0) M2).bind (fun v3 => gX2_strikeOut_15 S zfu (p0) ((v3 - (1 : Int32))) M2)))))
set_option maxHeartbeats 4000000 in
set_option maxRecDepth 100000 in
theorem c_X2_strikeOut (w : zWd) (S : List (Nat × Nat)) (p0 : Nat) (M : zM) : CT (zfVM S) w 2 mX2_strikeOut [.ref (p0)] (S, M) (gX2_strikeOut S p0 M) := by
  refine CT.of (by decide) (Nat.le_of_ble_eq_true rfl) ?_
  show AJ _ _ _ _ 0 [(0, .ref (p0))] [] _ _
  unfold gX2_strikeOut
  refine aj_aload_n (0) dX2_strikeOut_0 rfl rfl ?_
  refine aj_getR (TX := TX2) zc2 (by decide) rfl (Or.inl zg_449) dX2_strikeOut_1 (fun r1 => ?_)
  refine aj_iconst (v := (0 : Int32)) dX2_strikeOut_4 (by decide) ?_
  refine rV_VM (as := [.int ((0 : Int32))]) (c_X5_fill w S _ _ _) mv_X5_fill rfl zg_1168 (by decide) (Nat.le_of_ble_eq_true rfl) dX2_strikeOut_5 (fun M2 => ?_)
  refine aj_aload_n (0) dX2_strikeOut_8 rfl rfl ?_
  refine rV_I (as := []) (c_X2_byHowMany w S _ _) mv_X2_byHowMany rfl zg_1169 (by decide) (Nat.le_of_ble_eq_true rfl) dX2_strikeOut_9 (fun v3 => ?_)
  refine aj_iconst (v := (1 : Int32)) dX2_strikeOut_12 (by decide) ?_
  refine aj_isub dX2_strikeOut_13 ?_
  refine aj_istore_n (ls2 := [(1, .int ((v3 - (1 : Int32)))), (0, .ref (p0))]) dX2_strikeOut_14 rfl (Nat.le_of_ble_eq_true rfl) rfl ?_
  refine AJ.sub [1, 0] rfl ?_
  exact t_X2_strikeOut_15 w S zfu (p0) ((v3 - (1 : Int32))) M2
def gX2_tells (S : List (Nat × Nat)) (p0 : Nat) (x1 : Int32) (M : zM) : Option Int32 := zgR S M (p0) 2 10 0 (fun r1 => zrc S (r1) 5 1 ((gX5_get S (r1) (x1) M).bind (fun v2 => (if v2 = (2 : Int32) then some ((0 : Int32)) else zgR S M (p0) 2 10 3 (fun r3 => zrc S (r3) 5 1 ((gX5_get S (r3) (x1) M).bind (fun v4 => (if v4 = 0 then some ((1 : Int32)) else some ((0 : Int32))))))))))
set_option maxHeartbeats 4000000 in
set_option maxRecDepth 100000 in
theorem c_X2_tells (w : zWd) (S : List (Nat × Nat)) (p0 : Nat) (x1 : Int32) (M : zM) : CT (zfI S M) w 2 mX2_tells [.ref (p0), .int (x1)] (S, M) (gX2_tells S p0 x1 M) := by
  refine CT.of (by decide) (Nat.le_of_ble_eq_true rfl) ?_
  show AJ _ _ _ _ 0 [(0, .ref (p0)), (1, .int (x1))] [] _ _
  unfold gX2_tells
  refine aj_aload_n (0) dX2_tells_0 rfl rfl ?_
  refine aj_getR (TX := TX2) zc2 (by decide) rfl (Or.inl zg_446) dX2_tells_1 (fun r1 => ?_)
  refine aj_iload_n (1) dX2_tells_4 rfl rfl ?_
  refine rV_I (as := [.int (x1)]) (c_X5_get w S _ _ _) mv_X5_get rfl zg_1173 (by decide) (Nat.le_of_ble_eq_true rfl) dX2_tells_5 (fun v2 => ?_)
  refine aj_iconst (v := (2 : Int32)) dX2_tells_8 (by decide) ?_
  refine aj_icmp_eq (tgt := 27) dX2_tells_9 (by decide) (fun h => ?_) (fun h => ?_)
  · refine aj_iconst (v := (0 : Int32)) dX2_tells_27 (by decide) ?_
    exact aj_iret dX2_tells_28 rfl (by decide +kernel) rfl
  refine aj_aload_n (0) dX2_tells_12 rfl rfl ?_
  refine aj_getR (TX := TX2) zc2 (by decide) rfl (Or.inl zg_449) dX2_tells_13 (fun r3 => ?_)
  refine aj_iload_n (1) dX2_tells_16 rfl rfl ?_
  refine rV_I (as := [.int (x1)]) (c_X5_get w S _ _ _) mv_X5_get rfl zg_1173 (by decide) (Nat.le_of_ble_eq_true rfl) dX2_tells_17 (fun v4 => ?_)
  refine aj_if_ne (tgt := 27) dX2_tells_20 (by decide) (fun h => ?_) (fun h => ?_)
  · refine aj_iconst (v := (0 : Int32)) dX2_tells_27 (by decide) ?_
    exact aj_iret dX2_tells_28 rfl (by decide +kernel) rfl
  refine aj_iconst (v := (1 : Int32)) dX2_tells_23 (by decide) ?_
  refine aj_goto (tgt := 28) dX2_tells_24 (by decide) ?_
  exact aj_iret dX2_tells_28 rfl (by decide +kernel) rfl
def gX2_longest_4 (S : List (Nat × Nat)) : Nat → Nat → Int32 → Int32 → zM → Option Int32
  | 0 => fun _ _ _ _ => none
  | n + 1 => fun p0 x1 x2 M => zrc S (p0) 2 10 ((gX2_byHowMany S (p0) M).bind (fun v1 => (if v1 ≤ x2 then some (x1) else zrc S (p0) 2 10 ((gX2_tells S (p0) (x2) M).bind (fun v2 => (if v2 = 0 then (gX2_longest_4 S   n) (p0) (x1) ((x2 + (1 : Int32))) M else zgR S M (p0) 2 10 1 (fun r3 => zrc S (r3) 5 1 ((gX5_get S (r3) (x2) M).bind (fun v4 => (gX2_longest_4 S   n) (p0) ((if x1 < v4 then v4 else x1)) ((x2 + (1 : Int32))) M)))))))))
set_option maxHeartbeats 4000000 in
set_option maxRecDepth 100000 in
theorem t_X2_longest_4 (w : zWd) (S : List (Nat × Nat)) (fu : Nat) : ∀ (p0 : Nat) (x1 : Int32) (x2 : Int32) (M : zM), AJ (zfI S M) w 3 mX2_longest 4 [(0, .ref (p0)), (1, .int (x1)), (2, .int (x2))] [] (S, M) (gX2_longest_4 S fu p0 x1 x2 M) := by
  induction fu with
  | zero => intro p0 x1 x2 M; exact AJ.none
  | succ n ih =>
    intro p0 x1 x2 M
    unfold gX2_longest_4
    refine aj_iload_n (2) dX2_longest_4 rfl rfl ?_
    refine aj_aload_n (0) dX2_longest_5 rfl rfl ?_
    refine rV_I (as := []) (c_X2_byHowMany w S _ _) mv_X2_byHowMany rfl zg_1169 (by decide) (Nat.le_of_ble_eq_true rfl) dX2_longest_6 (fun v1 => ?_)
    refine aj_icmp_ge (tgt := 39) dX2_longest_9 (by decide) (fun h => ?_) (fun h => ?_)
    · refine aj_iload_n (1) dX2_longest_39 rfl rfl ?_
      exact aj_iret dX2_longest_40 rfl rfl rfl
    refine aj_aload_n (0) dX2_longest_12 rfl rfl ?_
    refine aj_iload_n (2) dX2_longest_13 rfl rfl ?_
    refine rV_I (as := [.int (x2)]) (c_X2_tells w S _ _ _) mv_X2_tells rfl zg_1178 (by decide) (Nat.le_of_ble_eq_true rfl) dX2_longest_14 (fun v2 => ?_)
    refine aj_if_eq (tgt := 33) dX2_longest_17 (by decide) (fun h => ?_) (fun h => ?_)
    · refine aj_iinc (j := 2) (v := (x2 + (1 : Int32))) (ls2 := [(2, .int ((x2 + (1 : Int32)))), (0, .ref (p0)), (1, .int (x1))]) dX2_longest_33 rfl rfl (Nat.le_of_ble_eq_true rfl) rfl ?_
      refine aj_goto (tgt := 4) dX2_longest_36 (by decide) ?_
      refine AJ.sub [1, 2, 0] rfl ?_
      exact ih (p0) (x1) ((x2 + (1 : Int32))) M
    refine aj_iload_n (1) dX2_longest_20 rfl rfl ?_
    refine aj_aload_n (0) dX2_longest_21 rfl rfl ?_
    refine aj_getR (TX := TX2) zc2 (by decide) rfl (Or.inl zg_447) dX2_longest_22 (fun r3 => ?_)
    refine aj_iload_n (2) dX2_longest_25 rfl rfl ?_
    refine rV_I (as := [.int (x2)]) (c_X5_get w S _ _ _) mv_X5_get rfl zg_1173 (by decide) (Nat.le_of_ble_eq_true rfl) dX2_longest_26 (fun v4 => ?_)
    refine aj_mmax zg_1182 zg_40 zg_3 zg_41 (by decide) (Nat.le_of_ble_eq_true rfl) dX2_longest_29 ?_
    refine aj_istore_n (ls2 := [(1, .int ((if x1 < v4 then v4 else x1))), (0, .ref (p0)), (2, .int (x2))]) dX2_longest_32 rfl (Nat.le_of_ble_eq_true rfl) rfl ?_
    refine aj_iinc (j := 2) (v := (x2 + (1 : Int32))) (ls2 := [(2, .int ((x2 + (1 : Int32)))), (1, .int ((if x1 < v4 then v4 else x1))), (0, .ref (p0))]) dX2_longest_33 rfl rfl (Nat.le_of_ble_eq_true rfl) rfl ?_
    refine aj_goto (tgt := 4) dX2_longest_36 (by decide) ?_
    refine AJ.sub [2, 1, 0] rfl ?_
    exact ih (p0) ((if x1 < v4 then v4 else x1)) ((x2 + (1 : Int32))) M
def gX2_longest (S : List (Nat × Nat)) (p0 : Nat) (M : zM) : Option Int32 := gX2_longest_4 S zfu (p0) ((0 : Int32)) ((0 : Int32)) M
set_option maxHeartbeats 4000000 in
set_option maxRecDepth 100000 in
theorem c_X2_longest (w : zWd) (S : List (Nat × Nat)) (p0 : Nat) (M : zM) : CT (zfI S M) w 3 mX2_longest [.ref (p0)] (S, M) (gX2_longest S p0 M) := by
  refine CT.of (by decide) (Nat.le_of_ble_eq_true rfl) ?_
  show AJ _ _ _ _ 0 [(0, .ref (p0))] [] _ _
  unfold gX2_longest
  refine aj_iconst (v := (0 : Int32)) dX2_longest_0 (by decide) ?_
  refine aj_istore_n (ls2 := [(1, .int ((0 : Int32))), (0, .ref (p0))]) dX2_longest_1 rfl (Nat.le_of_ble_eq_true rfl) rfl ?_
  refine aj_iconst (v := (0 : Int32)) dX2_longest_2 (by decide) ?_
  refine aj_istore_n (ls2 := [(2, .int ((0 : Int32))), (1, .int ((0 : Int32))), (0, .ref (p0))]) dX2_longest_3 rfl (Nat.le_of_ble_eq_true rfl) rfl ?_
  refine AJ.sub [2, 1, 0] rfl ?_
  exact t_X2_longest_4 w S zfu (p0) ((0 : Int32)) ((0 : Int32)) M
def gX2_sees (S : List (Nat × Nat)) (p0 : Nat) (x1 : Int32) (x2 : Int32) (x3 : Int32) (M : zM) : Option zM := zgR S M (p0) 2 10 4 (fun r1 => zrc S (r1) 5 1 ((gX5_set S (r1) ((((x1 * (60 : Int32)) + x2) - (1 : Int32))) (x3) M).bind (fun M2 => some M2)))
set_option maxHeartbeats 4000000 in
set_option maxRecDepth 100000 in
theorem c_X2_sees (w : zWd) (S : List (Nat × Nat)) (p0 : Nat) (x1 : Int32) (x2 : Int32) (x3 : Int32) (M : zM) : CT (zfVM S) w 2 mX2_sees [.ref (p0), .int (x1), .int (x2), .int (x3)] (S, M) (gX2_sees S p0 x1 x2 x3 M) := by
  refine CT.of (by decide) (Nat.le_of_ble_eq_true rfl) ?_
  show AJ _ _ _ _ 0 [(0, .ref (p0)), (1, .int (x1)), (2, .int (x2)), (3, .int (x3))] [] _ _
  unfold gX2_sees
  refine aj_aload_n (0) dX2_sees_0 rfl rfl ?_
  refine aj_getR (TX := TX2) zc2 (by decide) rfl (Or.inl zg_450) dX2_sees_1 (fun r1 => ?_)
  refine aj_iload_n (1) dX2_sees_4 rfl rfl ?_
  refine aj_bipush (v := (60 : Int32)) dX2_sees_5 (by decide) ?_
  refine aj_imul dX2_sees_7 ?_
  refine aj_iload_n (2) dX2_sees_8 rfl rfl ?_
  refine aj_iadd dX2_sees_9 ?_
  refine aj_iconst (v := (1 : Int32)) dX2_sees_10 (by decide) ?_
  refine aj_isub dX2_sees_11 ?_
  refine aj_iload_n (3) dX2_sees_12 rfl rfl ?_
  refine rV_VM (as := [.int ((((x1 * (60 : Int32)) + x2) - (1 : Int32))), .int (x3)]) (c_X5_set w S _ _ _ _) mv_X5_set rfl zg_1147 (by decide) (Nat.le_of_ble_eq_true rfl) dX2_sees_13 (fun M2 => ?_)
  exact aj_vret dX2_sees_16 rfl rfl
def gX2_lastBehind (S : List (Nat × Nat)) (p0 : Nat) (x1 : Int32) (x2 : Int32) (M : zM) : Option Int32 := zgR S M (p0) 2 10 4 (fun r1 => zrc S (r1) 5 1 ((gX5_get S (r1) ((((x2 * (60 : Int32)) + x1) - (1 : Int32))) M).bind (fun v2 => some (v2))))
set_option maxHeartbeats 4000000 in
set_option maxRecDepth 100000 in
theorem c_X2_lastBehind (w : zWd) (S : List (Nat × Nat)) (p0 : Nat) (x1 : Int32) (x2 : Int32) (M : zM) : CT (zfI S M) w 2 mX2_lastBehind [.ref (p0), .int (x1), .int (x2)] (S, M) (gX2_lastBehind S p0 x1 x2 M) := by
  refine CT.of (by decide) (Nat.le_of_ble_eq_true rfl) ?_
  show AJ _ _ _ _ 0 [(0, .ref (p0)), (1, .int (x1)), (2, .int (x2))] [] _ _
  unfold gX2_lastBehind
  refine aj_aload_n (0) dX2_lastBehind_0 rfl rfl ?_
  refine aj_getR (TX := TX2) zc2 (by decide) rfl (Or.inl zg_450) dX2_lastBehind_1 (fun r1 => ?_)
  refine aj_iload_n (2) dX2_lastBehind_4 rfl rfl ?_
  refine aj_bipush (v := (60 : Int32)) dX2_lastBehind_5 (by decide) ?_
  refine aj_imul dX2_lastBehind_7 ?_
  refine aj_iload_n (1) dX2_lastBehind_8 rfl rfl ?_
  refine aj_iadd dX2_lastBehind_9 ?_
  refine aj_iconst (v := (1 : Int32)) dX2_lastBehind_10 (by decide) ?_
  refine aj_isub dX2_lastBehind_11 ?_
  refine rV_I (as := [.int ((((x2 * (60 : Int32)) + x1) - (1 : Int32)))]) (c_X5_get w S _ _ _) mv_X5_get rfl zg_1173 (by decide) (Nat.le_of_ble_eq_true rfl) dX2_lastBehind_12 (fun v2 => ?_)
  exact aj_iret dX2_lastBehind_15 rfl rfl rfl
def gX2_fits_29 (S : List (Nat × Nat)) (p0 : Nat) (x1 : Int32) (x0s : Int32) (M : zM) : Option Int32 := zgR S M (p0) 2 10 0 (fun r1 => zrc S (r1) 5 1 ((gX5_get S (r1) (x1) M).bind (fun v2 => (if v2 = 0 then (if x0s = (1 : Int32) then some ((1 : Int32)) else some ((0 : Int32))) else (if x0s = (0 : Int32) then some ((1 : Int32)) else some ((0 : Int32)))))))
set_option maxHeartbeats 4000000 in
set_option maxRecDepth 100000 in
theorem t_X2_fits_29 (w : zWd) (S : List (Nat × Nat)) (p0 : Nat) (x1 : Int32) (x0s : Int32) (M : zM) : AJ (zfI S M) w 3 mX2_fits 29 [(0, .ref (p0)), (1, .int (x1))] [.int (x0s)] (S, M) (gX2_fits_29 S p0 x1 x0s M) := by
  unfold gX2_fits_29
  refine aj_istore_n (ls2 := [(3, .int (x0s)), (0, .ref (p0)), (1, .int (x1))]) dX2_fits_29 rfl (Nat.le_of_ble_eq_true rfl) rfl ?_
  refine aj_iload_n (0) dX2_fits_30 rfl rfl ?_
  refine aj_aload_n (1) dX2_fits_31 rfl rfl ?_
  refine aj_getR (TX := TX2) zc2 (by decide) rfl (Or.inl zg_446) dX2_fits_32 (fun r1 => ?_)
  refine aj_iload_n (2) dX2_fits_35 rfl rfl ?_
  refine rV_I (as := [.int (x1)]) (c_X5_get w S _ _ _) mv_X5_get rfl zg_1173 (by decide) (Nat.le_of_ble_eq_true rfl) dX2_fits_36 (fun v2 => ?_)
  refine aj_if_ne (tgt := 46) dX2_fits_39 (by decide) (fun h => ?_) (fun h => ?_)
  · refine aj_iconst (v := (0 : Int32)) dX2_fits_46 (by decide) ?_
    refine aj_icmp_ne (tgt := 54) dX2_fits_47 (by decide) (fun h => ?_) (fun h => ?_)
    · refine aj_iconst (v := (0 : Int32)) dX2_fits_54 (by decide) ?_
      exact aj_iret dX2_fits_55 rfl (by decide +kernel) rfl
    refine aj_iconst (v := (1 : Int32)) dX2_fits_50 (by decide) ?_
    refine aj_goto (tgt := 55) dX2_fits_51 (by decide) ?_
    exact aj_iret dX2_fits_55 rfl (by decide +kernel) rfl
  refine aj_iconst (v := (1 : Int32)) dX2_fits_42 (by decide) ?_
  refine aj_goto (tgt := 47) dX2_fits_43 (by decide) ?_
  refine aj_icmp_ne (tgt := 54) dX2_fits_47 (by decide) (fun h => ?_) (fun h => ?_)
  · refine aj_iconst (v := (0 : Int32)) dX2_fits_54 (by decide) ?_
    exact aj_iret dX2_fits_55 rfl (by decide +kernel) rfl
  refine aj_iconst (v := (1 : Int32)) dX2_fits_50 (by decide) ?_
  refine aj_goto (tgt := 55) dX2_fits_51 (by decide) ?_
  exact aj_iret dX2_fits_55 rfl (by decide +kernel) rfl
def gX2_fits (S : List (Nat × Nat)) (p0 : Nat) (x1 : Int32) (x2 : Int32) (M : zM) : Option Int32 := zgR S M (p0) 2 10 1 (fun r1 => zrc S (r1) 5 1 ((gX5_get S (r1) (x1) M).bind (fun v2 => zrc S (p0) 2 10 ((gX2_lastBehind S (p0) (v2) (x2) M).bind (fun v3 => zgR S M (p0) 2 10 2 (fun r4 => zrc S (r4) 5 1 ((gX5_get S (r4) (x1) M).bind (fun v5 => (if v3 < v5 then gX2_fits_29 S (p0) (x1) ((0 : Int32)) M else gX2_fits_29 S (p0) (x1) ((1 : Int32)) M)))))))))
set_option maxHeartbeats 4000000 in
set_option maxRecDepth 100000 in
theorem c_X2_fits (w : zWd) (S : List (Nat × Nat)) (p0 : Nat) (x1 : Int32) (x2 : Int32) (M : zM) : CT (zfI S M) w 3 mX2_fits [.ref (p0), .int (x1), .int (x2)] (S, M) (gX2_fits S p0 x1 x2 M) := by
  refine CT.of (by decide) (Nat.le_of_ble_eq_true rfl) ?_
  show AJ _ _ _ _ 0 [(0, .ref (p0)), (1, .int (x1)), (2, .int (x2))] [] _ _
  unfold gX2_fits
  refine aj_aload_n (0) dX2_fits_0 rfl rfl ?_
  refine aj_aload_n (0) dX2_fits_1 rfl rfl ?_
  refine aj_getR (TX := TX2) zc2 (by decide) rfl (Or.inl zg_447) dX2_fits_2 (fun r1 => ?_)
  refine aj_iload_n (1) dX2_fits_5 rfl rfl ?_
  refine rV_I (as := [.int (x1)]) (c_X5_get w S _ _ _) mv_X5_get rfl zg_1173 (by decide) (Nat.le_of_ble_eq_true rfl) dX2_fits_6 (fun v2 => ?_)
  refine aj_iload_n (2) dX2_fits_9 rfl rfl ?_
  refine rV_I (as := [.int (v2), .int (x2)]) (c_X2_lastBehind w S _ _ _ _) mv_X2_lastBehind rfl zg_1196 (by decide) (Nat.le_of_ble_eq_true rfl) dX2_fits_10 (fun v3 => ?_)
  refine aj_aload_n (0) dX2_fits_13 rfl rfl ?_
  refine aj_getR (TX := TX2) zc2 (by decide) rfl (Or.inl zg_448) dX2_fits_14 (fun r4 => ?_)
  refine aj_iload_n (1) dX2_fits_17 rfl rfl ?_
  refine rV_I (as := [.int (x1)]) (c_X5_get w S _ _ _) mv_X5_get rfl zg_1173 (by decide) (Nat.le_of_ble_eq_true rfl) dX2_fits_18 (fun v5 => ?_)
  refine aj_icmp_lt (tgt := 28) dX2_fits_21 (by decide) (fun h => ?_) (fun h => ?_)
  · refine aj_iconst (v := (0 : Int32)) dX2_fits_28 (by decide) ?_
    refine AJ.sub [0, 1] rfl ?_
    exact t_X2_fits_29 w S (p0) (x1) ((0 : Int32)) M
  refine aj_iconst (v := (1 : Int32)) dX2_fits_24 (by decide) ?_
  refine aj_goto (tgt := 29) dX2_fits_25 (by decide) ?_
  refine AJ.sub [0, 1] rfl ?_
  exact t_X2_fits_29 w S (p0) (x1) ((1 : Int32)) M
def gX2_fitting_15 (S : List (Nat × Nat)) (k5 : Nat → Int32 → Int32 → zM → Option Int32) : Nat → Nat → Int32 → Int32 → Int32 → zM → Option Int32
  | 0 => fun _ _ _ _ _ => none
  | n + 1 => fun p0 x1 x2 x3 M => (if (24 : Int32) ≤ x3 then k5 (p0) (x1) ((x2 + (1 : Int32))) M else zrc S (p0) 2 10 ((gX2_tells S (p0) (x2) M).bind (fun v1 => (if v1 = 0 then (gX2_fitting_15 S  k5 n) (p0) (x1) (x2) ((x3 + (1 : Int32))) M else zrc S (p0) 2 10 ((gX2_fits S (p0) (x2) (x3) M).bind (fun v2 => (if v2 = 0 then (gX2_fitting_15 S  k5 n) (p0) ((x1 &&& (((1 : Int32) <<< (x3 &&& 31)) ^^^ (-1 : Int32)))) (x2) ((x3 + (1 : Int32))) M else (gX2_fitting_15 S  k5 n) (p0) (x1) (x2) ((x3 + (1 : Int32))) M)))))))
set_option maxHeartbeats 4000000 in
set_option maxRecDepth 100000 in
theorem t_X2_fitting_15 (w : zWd) (S : List (Nat × Nat)) (k5 : Nat → Int32 → Int32 → zM → Option Int32) (hk5 : ∀ (p0 : Nat) (x1 : Int32) (x2 : Int32) (M : zM), AJ (zfI S M) w 4 mX2_fitting 5 [(0, .ref (p0)), (1, .int (x1)), (2, .int (x2))] [] (S, M) (k5 p0 x1 x2 M)) (fu : Nat) : ∀ (p0 : Nat) (x1 : Int32) (x2 : Int32) (x3 : Int32) (M : zM), AJ (zfI S M) w 4 mX2_fitting 15 [(0, .ref (p0)), (1, .int (x1)), (2, .int (x2)), (3, .int (x3))] [] (S, M) (gX2_fitting_15 S k5 fu p0 x1 x2 x3 M) := by
  induction fu with
  | zero => intro p0 x1 x2 x3 M; exact AJ.none
  | succ n ih =>
    intro p0 x1 x2 x3 M
    unfold gX2_fitting_15
    refine aj_iload_n (3) dX2_fitting_15 rfl rfl ?_
    refine aj_bipush (v := (24 : Int32)) dX2_fitting_16 (by decide) ?_
    refine aj_icmp_ge (tgt := 52) dX2_fitting_18 (by decide) (fun h => ?_) (fun h => ?_)
    · refine aj_iinc (j := 2) (v := (x2 + (1 : Int32))) (ls2 := [(2, .int ((x2 + (1 : Int32)))), (0, .ref (p0)), (1, .int (x1)), (3, .int (x3))]) dX2_fitting_52 rfl rfl (Nat.le_of_ble_eq_true rfl) rfl ?_
      refine aj_goto (tgt := 5) dX2_fitting_55 (by decide) ?_
      refine AJ.sub [1, 2, 0] rfl ?_
      exact hk5 (p0) (x1) ((x2 + (1 : Int32))) M
    refine aj_aload_n (0) dX2_fitting_21 rfl rfl ?_
    refine aj_iload_n (2) dX2_fitting_22 rfl rfl ?_
    refine rV_I (as := [.int (x2)]) (c_X2_tells w S _ _ _) mv_X2_tells rfl zg_1178 (by decide) (Nat.le_of_ble_eq_true rfl) dX2_fitting_23 (fun v1 => ?_)
    refine aj_if_eq (tgt := 46) dX2_fitting_26 (by decide) (fun h => ?_) (fun h => ?_)
    · refine aj_iinc (j := 3) (v := (x3 + (1 : Int32))) (ls2 := [(3, .int ((x3 + (1 : Int32)))), (0, .ref (p0)), (1, .int (x1)), (2, .int (x2))]) dX2_fitting_46 rfl rfl (Nat.le_of_ble_eq_true rfl) rfl ?_
      refine aj_goto (tgt := 15) dX2_fitting_49 (by decide) ?_
      refine AJ.sub [1, 2, 3, 0] rfl ?_
      exact ih (p0) (x1) (x2) ((x3 + (1 : Int32))) M
    refine aj_aload_n (0) dX2_fitting_29 rfl rfl ?_
    refine aj_iload_n (2) dX2_fitting_30 rfl rfl ?_
    refine aj_iload_n (3) dX2_fitting_31 rfl rfl ?_
    refine rV_I (as := [.int (x2), .int (x3)]) (c_X2_fits w S _ _ _ _) mv_X2_fits rfl zg_1192 (by decide) (Nat.le_of_ble_eq_true rfl) dX2_fitting_32 (fun v2 => ?_)
    refine aj_if_ne (tgt := 46) dX2_fitting_35 (by decide) (fun h => ?_) (fun h => ?_)
    · refine aj_iinc (j := 3) (v := (x3 + (1 : Int32))) (ls2 := [(3, .int ((x3 + (1 : Int32)))), (0, .ref (p0)), (1, .int (x1)), (2, .int (x2))]) dX2_fitting_46 rfl rfl (Nat.le_of_ble_eq_true rfl) rfl ?_
      refine aj_goto (tgt := 15) dX2_fitting_49 (by decide) ?_
      refine AJ.sub [1, 2, 3, 0] rfl ?_
      exact ih (p0) (x1) (x2) ((x3 + (1 : Int32))) M
    refine aj_iload_n (1) dX2_fitting_38 rfl rfl ?_
    refine aj_iconst (v := (1 : Int32)) dX2_fitting_39 (by decide) ?_
    refine aj_iload_n (3) dX2_fitting_40 rfl rfl ?_
    refine aj_ishl dX2_fitting_41 ?_
    refine aj_iconst (v := (-1 : Int32)) dX2_fitting_42 (by decide) ?_
    refine aj_ixor dX2_fitting_43 ?_
    refine aj_iand dX2_fitting_44 ?_
    refine aj_istore_n (ls2 := [(1, .int ((x1 &&& (((1 : Int32) <<< (x3 &&& 31)) ^^^ (-1 : Int32))))), (0, .ref (p0)), (2, .int (x2)), (3, .int (x3))]) dX2_fitting_45 rfl (Nat.le_of_ble_eq_true rfl) rfl ?_
    refine aj_iinc (j := 3) (v := (x3 + (1 : Int32))) (ls2 := [(3, .int ((x3 + (1 : Int32)))), (1, .int ((x1 &&& (((1 : Int32) <<< (x3 &&& 31)) ^^^ (-1 : Int32))))), (0, .ref (p0)), (2, .int (x2))]) dX2_fitting_46 rfl rfl (Nat.le_of_ble_eq_true rfl) rfl ?_
    refine aj_goto (tgt := 15) dX2_fitting_49 (by decide) ?_
    refine AJ.sub [2, 1, 3, 0] rfl ?_
    exact ih (p0) ((x1 &&& (((1 : Int32) <<< (x3 &&& 31)) ^^^ (-1 : Int32)))) (x2) ((x3 + (1 : Int32))) M
def gX2_fitting_5 (S : List (Nat × Nat)) : Nat → Nat → Int32 → Int32 → zM → Option Int32
  | 0 => fun _ _ _ _ => none
  | n + 1 => fun p0 x1 x2 M => zrc S (p0) 2 10 ((gX2_byHowMany S (p0) M).bind (fun v1 => (if v1 ≤ x2 then some (x1) else gX2_fitting_15 S (gX2_fitting_5 S   n) zfu (p0) (x1) (x2) ((0 : Int32)) M)))
set_option maxHeartbeats 4000000 in
set_option maxRecDepth 100000 in
theorem t_X2_fitting_5 (w : zWd) (S : List (Nat × Nat)) (fu : Nat) : ∀ (p0 : Nat) (x1 : Int32) (x2 : Int32) (M : zM), AJ (zfI S M) w 4 mX2_fitting 5 [(0, .ref (p0)), (1, .int (x1)), (2, .int (x2))] [] (S, M) (gX2_fitting_5 S fu p0 x1 x2 M) := by
  induction fu with
  | zero => intro p0 x1 x2 M; exact AJ.none
  | succ n ih =>
    intro p0 x1 x2 M
    unfold gX2_fitting_5
    refine aj_iload_n (2) dX2_fitting_5 rfl rfl ?_
    refine aj_aload_n (0) dX2_fitting_6 rfl rfl ?_
    refine rV_I (as := []) (c_X2_byHowMany w S _ _) mv_X2_byHowMany rfl zg_1169 (by decide) (Nat.le_of_ble_eq_true rfl) dX2_fitting_7 (fun v1 => ?_)
    refine aj_icmp_ge (tgt := 58) dX2_fitting_10 (by decide) (fun h => ?_) (fun h => ?_)
    · refine aj_iload_n (1) dX2_fitting_58 rfl rfl ?_
      exact aj_iret dX2_fitting_59 rfl rfl rfl
    refine aj_iconst (v := (0 : Int32)) dX2_fitting_13 (by decide) ?_
    refine aj_istore_n (ls2 := [(3, .int ((0 : Int32))), (0, .ref (p0)), (1, .int (x1)), (2, .int (x2))]) dX2_fitting_14 rfl (Nat.le_of_ble_eq_true rfl) rfl ?_
    refine AJ.sub [1, 2, 3, 0] rfl ?_
    exact t_X2_fitting_15 w S (gX2_fitting_5 S   n) ih zfu (p0) (x1) (x2) ((0 : Int32)) M
def gX2_fitting (S : List (Nat × Nat)) (p0 : Nat) (M : zM) : Option Int32 := gX2_fitting_5 S zfu (p0) ((16777215 : Int32)) ((0 : Int32)) M
set_option maxHeartbeats 4000000 in
set_option maxRecDepth 100000 in
theorem c_X2_fitting (w : zWd) (S : List (Nat × Nat)) (p0 : Nat) (M : zM) : CT (zfI S M) w 4 mX2_fitting [.ref (p0)] (S, M) (gX2_fitting S p0 M) := by
  refine CT.of (by decide) (Nat.le_of_ble_eq_true rfl) ?_
  show AJ _ _ _ _ 0 [(0, .ref (p0))] [] _ _
  unfold gX2_fitting
  refine aj_ldc (v := (16777215 : Int32)) dX2_fitting_0 zg_1191 ?_
  refine aj_istore_n (ls2 := [(1, .int ((16777215 : Int32))), (0, .ref (p0))]) dX2_fitting_2 rfl (Nat.le_of_ble_eq_true rfl) rfl ?_
  refine aj_iconst (v := (0 : Int32)) dX2_fitting_3 (by decide) ?_
  refine aj_istore_n (ls2 := [(2, .int ((0 : Int32))), (1, .int ((16777215 : Int32))), (0, .ref (p0))]) dX2_fitting_4 rfl (Nat.le_of_ble_eq_true rfl) rfl ?_
  refine AJ.sub [2, 1, 0] rfl ?_
  exact t_X2_fitting_5 w S zfu (p0) ((16777215 : Int32)) ((0 : Int32)) M
def gX2_worstOf_13 (S : List (Nat × Nat)) : Nat → Nat → Int32 → Int32 → Int32 → Int32 → zM → Option (Int32 × zM)
  | 0 => fun _ _ _ _ _ _ => none
  | n + 1 => fun p0 x1 x2 x3 x4 M => (if (24 : Int32) ≤ x4 then some (x3, M) else (if ((x2 >>> (x4 &&& 31)) &&& (1 : Int32)) = (1 : Int32) then zrc S (p0) 2 10 ((gX2_lastBehind S (p0) (x1) (x4) M).bind (fun v1 => zgR S M (p0) 2 10 5 (fun r2 => zgR S M (p0) 2 10 5 (fun r3 => zrc S (r3) 5 1 ((gX5_get S (r3) (v1) M).bind (fun v4 => zrc S (r2) 5 1 ((gX5_set S (r2) (v1) ((v4 + (1 : Int32))) M).bind (fun M5 => zgR S M5 (p0) 2 10 5 (fun r6 => zrc S (r6) 5 1 ((gX5_get S (r6) (v1) M5).bind (fun v7 => (gX2_worstOf_13 S   n) (p0) (x1) (x2) ((if x3 < v7 then v7 else x3)) ((x4 + (1 : Int32))) M5))))))))))) else (gX2_worstOf_13 S   n) (p0) (x1) (x2) (x3) ((x4 + (1 : Int32))) M))
set_option maxHeartbeats 4000000 in
set_option maxRecDepth 100000 in
theorem t_X2_worstOf_13 (w : zWd) (S : List (Nat × Nat)) (fu : Nat) : ∀ (p0 : Nat) (x1 : Int32) (x2 : Int32) (x3 : Int32) (x4 : Int32) (M : zM), AJ (zfIM S) w 3 mX2_worstOf 13 [(0, .ref (p0)), (1, .int (x1)), (2, .int (x2)), (3, .int (x3)), (4, .int (x4))] [] (S, M) (gX2_worstOf_13 S fu p0 x1 x2 x3 x4 M) := by
  induction fu with
  | zero => intro p0 x1 x2 x3 x4 M; exact AJ.none
  | succ n ih =>
    intro p0 x1 x2 x3 x4 M
    unfold gX2_worstOf_13
    refine aj_iload (4) dX2_worstOf_13 rfl ?_
    refine aj_bipush (v := (24 : Int32)) dX2_worstOf_15 (by decide) ?_
    refine aj_icmp_ge (tgt := 79) dX2_worstOf_17 (by decide) (fun h => ?_) (fun h => ?_)
    · refine aj_iload_n (3) dX2_worstOf_79 rfl rfl ?_
      exact aj_iret dX2_worstOf_80 rfl rfl rfl
    refine aj_iload_n (2) dX2_worstOf_20 rfl rfl ?_
    refine aj_iload (4) dX2_worstOf_21 rfl ?_
    refine aj_ishr dX2_worstOf_23 ?_
    refine aj_iconst (v := (1 : Int32)) dX2_worstOf_24 (by decide) ?_
    refine aj_iand dX2_worstOf_25 ?_
    refine aj_iconst (v := (1 : Int32)) dX2_worstOf_26 (by decide) ?_
    refine aj_icmp_ne (tgt := 73) dX2_worstOf_27 (by decide) (fun h => ?_) (fun h => ?_)
    · refine aj_iinc (j := 4) (v := (x4 + (1 : Int32))) (ls2 := [(4, .int ((x4 + (1 : Int32)))), (0, .ref (p0)), (1, .int (x1)), (2, .int (x2)), (3, .int (x3))]) dX2_worstOf_73 rfl rfl (Nat.le_of_ble_eq_true rfl) rfl ?_
      refine aj_goto (tgt := 13) dX2_worstOf_76 (by decide) ?_
      refine AJ.sub [1, 2, 3, 4, 0] rfl ?_
      exact ih (p0) (x1) (x2) (x3) ((x4 + (1 : Int32))) M
    refine aj_aload_n (0) dX2_worstOf_30 rfl rfl ?_
    refine aj_iload_n (1) dX2_worstOf_31 rfl rfl ?_
    refine aj_iload (4) dX2_worstOf_32 rfl ?_
    refine rV_I (as := [.int (x1), .int (x4)]) (c_X2_lastBehind w S _ _ _ _) mv_X2_lastBehind rfl zg_1196 (by decide) (Nat.le_of_ble_eq_true rfl) dX2_worstOf_34 (fun v1 => ?_)
    refine aj_istore (ls2 := [(5, .int (v1)), (0, .ref (p0)), (1, .int (x1)), (2, .int (x2)), (3, .int (x3)), (4, .int (x4))]) dX2_worstOf_37 (Nat.le_of_ble_eq_true rfl) rfl ?_
    refine aj_aload_n (1) dX2_worstOf_39 rfl rfl ?_
    refine aj_getR (TX := TX2) zc2 (by decide) rfl (Or.inl zg_451) dX2_worstOf_40 (fun r2 => ?_)
    refine aj_iload (0) dX2_worstOf_43 rfl ?_
    refine aj_aload_n (1) dX2_worstOf_45 rfl rfl ?_
    refine aj_getR (TX := TX2) zc2 (by decide) rfl (Or.inl zg_451) dX2_worstOf_46 (fun r3 => ?_)
    refine aj_iload (0) dX2_worstOf_49 rfl ?_
    refine rV_I (as := [.int (v1)]) (c_X5_get w S _ _ _) mv_X5_get rfl zg_1173 (by decide) (Nat.le_of_ble_eq_true rfl) dX2_worstOf_51 (fun v4 => ?_)
    refine aj_iconst (v := (1 : Int32)) dX2_worstOf_54 (by decide) ?_
    refine aj_iadd dX2_worstOf_55 ?_
    refine rV_VM (as := [.int (v1), .int ((v4 + (1 : Int32)))]) (c_X5_set w S _ _ _ _) mv_X5_set rfl zg_1147 (by decide) (Nat.le_of_ble_eq_true rfl) dX2_worstOf_56 (fun M5 => ?_)
    refine aj_iload_n (4) dX2_worstOf_59 rfl rfl ?_
    refine aj_aload_n (1) dX2_worstOf_60 rfl rfl ?_
    refine aj_getR (TX := TX2) zc2 (by decide) rfl (Or.inl zg_451) dX2_worstOf_61 (fun r6 => ?_)
    refine aj_iload (0) dX2_worstOf_64 rfl ?_
    refine rV_I (as := [.int (v1)]) (c_X5_get w S _ _ _) mv_X5_get rfl zg_1173 (by decide) (Nat.le_of_ble_eq_true rfl) dX2_worstOf_66 (fun v7 => ?_)
    refine aj_mmax zg_1182 zg_40 zg_3 zg_41 (by decide) (Nat.le_of_ble_eq_true rfl) dX2_worstOf_69 ?_
    refine aj_istore_n (ls2 := [(3, .int ((if x3 < v7 then v7 else x3))), (5, .int (v1)), (0, .ref (p0)), (1, .int (x1)), (2, .int (x2)), (4, .int (x4))]) dX2_worstOf_72 rfl (Nat.le_of_ble_eq_true rfl) rfl ?_
    refine aj_iinc (j := 5) (v := (x4 + (1 : Int32))) (ls2 := [(4, .int ((x4 + (1 : Int32)))), (3, .int ((if x3 < v7 then v7 else x3))), (5, .int (v1)), (0, .ref (p0)), (1, .int (x1)), (2, .int (x2))]) dX2_worstOf_73 rfl rfl (Nat.le_of_ble_eq_true rfl) rfl ?_
    refine aj_goto (tgt := 13) dX2_worstOf_76 (by decide) ?_
    refine AJ.sub [3, 4, 5, 1, 0] rfl ?_
    exact ih (p0) (x1) (x2) ((if x3 < v7 then v7 else x3)) ((x4 + (1 : Int32))) M5
def gX2_worstOf (S : List (Nat × Nat)) (p0 : Nat) (x1 : Int32) (x2 : Int32) (M : zM) : Option (Int32 × zM) := zgR S M (p0) 2 10 5 (fun r1 => zrc S (r1) 5 1 ((gX5_fill S (r1) ((0 : Int32)) M).bind (fun M2 => gX2_worstOf_13 S zfu (p0) (x1) (x2) ((0 : Int32)) ((0 : Int32)) M2)))
set_option maxHeartbeats 4000000 in
set_option maxRecDepth 100000 in
theorem c_X2_worstOf (w : zWd) (S : List (Nat × Nat)) (p0 : Nat) (x1 : Int32) (x2 : Int32) (M : zM) : CT (zfIM S) w 3 mX2_worstOf [.ref (p0), .int (x1), .int (x2)] (S, M) (gX2_worstOf S p0 x1 x2 M) := by
  refine CT.of (by decide) (Nat.le_of_ble_eq_true rfl) ?_
  show AJ _ _ _ _ 0 [(0, .ref (p0)), (1, .int (x1)), (2, .int (x2))] [] _ _
  unfold gX2_worstOf
  refine aj_aload_n (0) dX2_worstOf_0 rfl rfl ?_
  refine aj_getR (TX := TX2) zc2 (by decide) rfl (Or.inl zg_451) dX2_worstOf_1 (fun r1 => ?_)
  refine aj_iconst (v := (0 : Int32)) dX2_worstOf_4 (by decide) ?_
  refine rV_VM (as := [.int ((0 : Int32))]) (c_X5_fill w S _ _ _) mv_X5_fill rfl zg_1168 (by decide) (Nat.le_of_ble_eq_true rfl) dX2_worstOf_5 (fun M2 => ?_)
  refine aj_iconst (v := (0 : Int32)) dX2_worstOf_8 (by decide) ?_
  refine aj_istore_n (ls2 := [(3, .int ((0 : Int32))), (0, .ref (p0)), (1, .int (x1)), (2, .int (x2))]) dX2_worstOf_9 rfl (Nat.le_of_ble_eq_true rfl) rfl ?_
  refine aj_iconst (v := (0 : Int32)) dX2_worstOf_10 (by decide) ?_
  refine aj_istore (ls2 := [(4, .int ((0 : Int32))), (3, .int ((0 : Int32))), (0, .ref (p0)), (1, .int (x1)), (2, .int (x2))]) dX2_worstOf_11 (Nat.le_of_ble_eq_true rfl) rfl ?_
  refine AJ.sub [2, 3, 4, 1, 0] rfl ?_
  exact t_X2_worstOf_13 w S zfu (p0) (x1) (x2) ((0 : Int32)) ((0 : Int32)) M2
def gX2_seekQuestion_17 (S : List (Nat × Nat)) : Nat → Nat → Int32 → Int32 → zM → Option zM
  | 0 => fun _ _ _ _ => none
  | n + 1 => fun p0 x1 x2 M => (if (60 : Int32) < x2 then some M else zrc S (p0) 2 10 (zb2 (gX2_worstOf S (p0) (x2) (x1) M) (fun v1 M2 => zgI S M2 (p0) 2 10 9 (fun v3 => (if v3 ≤ v1 then (gX2_seekQuestion_17 S   n) (p0) (x1) ((x2 + (1 : Int32))) M2 else zpI S M2 (p0) 2 10 8 (x2) (fun M4 => zpI S M4 (p0) 2 10 9 (v1) (fun M5 => (gX2_seekQuestion_17 S   n) (p0) (x1) ((x2 + (1 : Int32))) M5)))))))
set_option maxHeartbeats 4000000 in
set_option maxRecDepth 100000 in
theorem t_X2_seekQuestion_17 (w : zWd) (S : List (Nat × Nat)) (fu : Nat) : ∀ (p0 : Nat) (x1 : Int32) (x2 : Int32) (M : zM), AJ (zfVM S) w 4 mX2_seekQuestion 17 [(0, .ref (p0)), (1, .int (x1)), (2, .int (x2))] [] (S, M) (gX2_seekQuestion_17 S fu p0 x1 x2 M) := by
  induction fu with
  | zero => intro p0 x1 x2 M; exact AJ.none
  | succ n ih =>
    intro p0 x1 x2 M
    unfold gX2_seekQuestion_17
    refine aj_iload_n (2) dX2_seekQuestion_17 rfl rfl ?_
    refine aj_bipush (v := (60 : Int32)) dX2_seekQuestion_18 (by decide) ?_
    refine aj_icmp_gt (tgt := 54) dX2_seekQuestion_20 (by decide) (fun h => ?_) (fun h => ?_)
    · exact aj_vret dX2_seekQuestion_54 rfl rfl
    refine aj_aload_n (0) dX2_seekQuestion_23 rfl rfl ?_
    refine aj_iload_n (2) dX2_seekQuestion_24 rfl rfl ?_
    refine aj_iload_n (1) dX2_seekQuestion_25 rfl rfl ?_
    refine rV_IM (as := [.int (x2), .int (x1)]) (c_X2_worstOf w S _ _ _ _) mv_X2_worstOf rfl zg_1208 (by decide) (Nat.le_of_ble_eq_true rfl) dX2_seekQuestion_26 (fun v1 M2 => ?_)
    refine aj_istore_n (ls2 := [(3, .int (v1)), (0, .ref (p0)), (1, .int (x1)), (2, .int (x2))]) dX2_seekQuestion_29 rfl (Nat.le_of_ble_eq_true rfl) rfl ?_
    refine aj_iload_n (0) dX2_seekQuestion_30 rfl rfl ?_
    refine aj_aload_n (1) dX2_seekQuestion_31 rfl rfl ?_
    refine r_getI (TX := TX2) zc2 (by decide) rfl (Or.inl zg_458) dX2_seekQuestion_32 (fun v3 => ?_)
    refine aj_icmp_ge (tgt := 48) dX2_seekQuestion_35 (by decide) (fun h => ?_) (fun h => ?_)
    · refine aj_iinc (j := 3) (v := (x2 + (1 : Int32))) (ls2 := [(2, .int ((x2 + (1 : Int32)))), (3, .int (v1)), (0, .ref (p0)), (1, .int (x1))]) dX2_seekQuestion_48 rfl rfl (Nat.le_of_ble_eq_true rfl) rfl ?_
      refine aj_goto (tgt := 17) dX2_seekQuestion_51 (by decide) ?_
      refine AJ.sub [2, 3, 0] rfl ?_
      exact ih (p0) (x1) ((x2 + (1 : Int32))) M2
    refine aj_aload_n (1) dX2_seekQuestion_38 rfl rfl ?_
    refine aj_iload_n (3) dX2_seekQuestion_39 rfl rfl ?_
    refine r_putI (TX := TX2) zc2 (by decide) rfl rfl rfl rfl (Or.inl zg_456) dX2_seekQuestion_40 (fun M4 => ?_)
    refine aj_aload_n (1) dX2_seekQuestion_43 rfl rfl ?_
    refine aj_iload_n (0) dX2_seekQuestion_44 rfl rfl ?_
    refine r_putI (TX := TX2) zc2 (by decide) rfl rfl rfl rfl (Or.inl zg_458) dX2_seekQuestion_45 (fun M5 => ?_)
    refine aj_iinc (j := 3) (v := (x2 + (1 : Int32))) (ls2 := [(2, .int ((x2 + (1 : Int32)))), (3, .int (v1)), (0, .ref (p0)), (1, .int (x1))]) dX2_seekQuestion_48 rfl rfl (Nat.le_of_ble_eq_true rfl) rfl ?_
    refine aj_goto (tgt := 17) dX2_seekQuestion_51 (by decide) ?_
    refine AJ.sub [2, 3, 0] rfl ?_
    exact ih (p0) (x1) ((x2 + (1 : Int32))) M5
def gX2_seekQuestion (S : List (Nat × Nat)) (p0 : Nat) (x1 : Int32) (M : zM) : Option zM := zpI S M (p0) 2 10 8 ((1 : Int32)) (fun M1 => zrc S (p0) 2 10 (zb2 (gX2_worstOf S (p0) ((1 : Int32)) (x1) M1) (fun v2 M3 => zpI S M3 (p0) 2 10 9 (v2) (fun M4 => gX2_seekQuestion_17 S zfu (p0) (x1) ((2 : Int32)) M4))))
set_option maxHeartbeats 4000000 in
set_option maxRecDepth 100000 in
theorem c_X2_seekQuestion (w : zWd) (S : List (Nat × Nat)) (p0 : Nat) (x1 : Int32) (M : zM) : CT (zfVM S) w 4 mX2_seekQuestion [.ref (p0), .int (x1)] (S, M) (gX2_seekQuestion S p0 x1 M) := by
  refine CT.of (by decide) (Nat.le_of_ble_eq_true rfl) ?_
  show AJ _ _ _ _ 0 [(0, .ref (p0)), (1, .int (x1))] [] _ _
  unfold gX2_seekQuestion
  refine aj_aload_n (0) dX2_seekQuestion_0 rfl rfl ?_
  refine aj_iconst (v := (1 : Int32)) dX2_seekQuestion_1 (by decide) ?_
  refine r_putI (TX := TX2) zc2 (by decide) rfl rfl rfl rfl (Or.inl zg_456) dX2_seekQuestion_2 (fun M1 => ?_)
  refine aj_aload_n (0) dX2_seekQuestion_5 rfl rfl ?_
  refine aj_aload_n (0) dX2_seekQuestion_6 rfl rfl ?_
  refine aj_iconst (v := (1 : Int32)) dX2_seekQuestion_7 (by decide) ?_
  refine aj_iload_n (1) dX2_seekQuestion_8 rfl rfl ?_
  refine rV_IM (as := [.int ((1 : Int32)), .int (x1)]) (c_X2_worstOf w S _ _ _ _) mv_X2_worstOf rfl zg_1208 (by decide) (Nat.le_of_ble_eq_true rfl) dX2_seekQuestion_9 (fun v2 M3 => ?_)
  refine r_putI (TX := TX2) zc2 (by decide) rfl rfl rfl rfl (Or.inl zg_458) dX2_seekQuestion_12 (fun M4 => ?_)
  refine aj_iconst (v := (2 : Int32)) dX2_seekQuestion_15 (by decide) ?_
  refine aj_istore_n (ls2 := [(2, .int ((2 : Int32))), (0, .ref (p0)), (1, .int (x1))]) dX2_seekQuestion_16 rfl (Nat.le_of_ble_eq_true rfl) rfl ?_
  refine AJ.sub [1, 2, 0] rfl ?_
  exact t_X2_seekQuestion_17 w S zfu (p0) (x1) ((2 : Int32)) M4
