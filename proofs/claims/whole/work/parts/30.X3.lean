/-! DayOpeners$Parser: functions of its methods and their contracts: written by wip/whole/gen/dec.py -/
def gX3_init (p0 : Nat) (S : List (Nat × Nat)) (M : zM) : Option zH := znew S M 9 7 (fun S1 M2 r3 => zmk2 S1 (gX9_init (r3) S1 M2) (fun S4 M5 => zpR S4 M5 (p0) 3 10 0 (some (r3)) (fun M6 => znew S4 M6 10 18 (fun S7 M8 r9 => zmk2 S7 (gX10_init (r9) S7 M8) (fun S10 M11 => zpR S10 M11 (p0) 3 10 1 (some (r9)) (fun M12 => znew S10 M12 5 1 (fun S13 M14 r15 => zmk2 S13 (gX5_init (r15) ((72 : Int32)) S13 M14) (fun S16 M17 => zpR S16 M17 (p0) 3 10 6 (some (r15)) (fun M18 => some (S16, M18))))))))))
set_option maxHeartbeats 4000000 in
set_option maxRecDepth 100000 in
theorem c_X3_init (w : zWd) (hz : zSZ w) (hg : w.2.2.2.2.2 = 0) (p0 : Nat) (S : List (Nat × Nat)) (M : zM) : CT zfC w 6 mX3_init [.ref (p0)] (S, M) (gX3_init p0 S M) := by
  refine CT.of (by decide) (Nat.le_of_ble_eq_true rfl) ?_
  show AJ _ _ _ _ 0 [(0, .ref (p0))] [] _ _
  unfold gX3_init
  refine aj_aload_n (0) dX3_init_0 rfl rfl ?_
  refine aj_obj zg_52 zg_31 zg_32 (by decide) (Nat.le_of_ble_eq_true rfl) dX3_init_1 ?_
  refine aj_aload_n (0) dX3_init_4 rfl rfl ?_
  refine r_new (TX := TX9) hg zc9 zg_53 zg_54 zg_5 dX3_init_5 (fun S1 M2 r3 => ?_)
  refine aj_dup dX3_init_8 rfl ?_
  refine rC (as := []) hg (c_X9_init w hz hg _ _ _) mc_X9_init rfl (Or.inl zg_55) (by decide) (Nat.le_of_ble_eq_true rfl) dX3_init_9 (fun S4 M5 => ?_)
  refine r_putR (TX := TX3) zc3 (by decide) rfl (Or.inr ⟨rfl, rfl, rfl, zg_284⟩) (Or.inl zg_284) dX3_init_12 (fun M6 => ?_)
  refine aj_aload_n (0) dX3_init_15 rfl rfl ?_
  refine r_new (TX := TX10) hg zc10 zg_140 zg_141 zg_10 dX3_init_16 (fun S7 M8 r9 => ?_)
  refine aj_dup dX3_init_19 rfl ?_
  refine rC (as := []) hg (c_X10_init w hz hg _ _ _) mc_X10_init rfl (Or.inr ⟨_, zn_142⟩) (by decide) (Nat.le_of_ble_eq_true rfl) dX3_init_20 (fun S10 M11 => ?_)
  refine r_putR (TX := TX3) zc3 (by decide) rfl (Or.inl rfl) (Or.inl zg_285) dX3_init_23 (fun M12 => ?_)
  refine aj_aload_n (0) dX3_init_26 rfl rfl ?_
  refine r_new (TX := TX5) hg zc5 zg_282 zg_34 zg_2 dX3_init_27 (fun S13 M14 r15 => ?_)
  refine aj_dup dX3_init_30 rfl ?_
  refine aj_bipush (v := (72 : Int32)) dX3_init_31 (by decide) ?_
  refine rC (as := [.int ((72 : Int32))]) hg (c_X5_init w hz hg _ _ _ _) mc_X5_init rfl (Or.inl zg_283) (by decide) (Nat.le_of_ble_eq_true rfl) dX3_init_33 (fun S16 M17 => ?_)
  refine r_putR (TX := TX3) zc3 (by decide) rfl (Or.inr ⟨rfl, rfl, rfl, zg_292⟩) (Or.inl zg_292) dX3_init_36 (fun M18 => ?_)
  exact aj_vret dX3_init_39 rfl rfl
def gX3_fails (S : List (Nat × Nat)) (p0 : Nat) (x1 : Int32) (M : zM) : Option (Int32 × zM) := zpI S M (p0) 3 10 2 (x1) (fun M1 => zgR S M1 (p0) 3 10 0 (fun r2 => zgI S M1 (r2) 9 7 4 (fun v3 => zpI S M1 (p0) 3 10 3 (v3) (fun M4 => some ((0 : Int32), M4)))))
set_option maxHeartbeats 4000000 in
set_option maxRecDepth 100000 in
theorem c_X3_fails (w : zWd) (S : List (Nat × Nat)) (p0 : Nat) (x1 : Int32) (M : zM) : CT (zfIM S) w 1 mX3_fails [.ref (p0), .int (x1)] (S, M) (gX3_fails S p0 x1 M) := by
  refine CT.of (by decide) (Nat.le_of_ble_eq_true rfl) ?_
  show AJ _ _ _ _ 0 [(0, .ref (p0)), (1, .int (x1))] [] _ _
  unfold gX3_fails
  refine aj_aload_n (0) dX3_fails_0 rfl rfl ?_
  refine aj_iload_n (1) dX3_fails_1 rfl rfl ?_
  refine r_putI (TX := TX3) zc3 (by decide) rfl rfl rfl rfl (Or.inl zg_286) dX3_fails_2 (fun M1 => ?_)
  refine aj_aload_n (0) dX3_fails_5 rfl rfl ?_
  refine aj_aload_n (0) dX3_fails_6 rfl rfl ?_
  refine aj_getR (TX := TX3) zc3 (by decide) rfl (Or.inl zg_284) dX3_fails_7 (fun r2 => ?_)
  refine r_getI (TX := TX9) zc9 (by decide) rfl (Or.inr ⟨_, zn_118⟩) dX3_fails_10 (fun v3 => ?_)
  refine r_putI (TX := TX3) zc3 (by decide) rfl rfl rfl rfl (Or.inl zg_288) dX3_fails_13 (fun M4 => ?_)
  refine aj_iconst (v := (0 : Int32)) dX3_fails_16 (by decide) ?_
  exact aj_iret dX3_fails_17 rfl (by decide +kernel) rfl
def gX3_isNumber (S : List (Nat × Nat)) (p0 : Nat) (x1 : Int32) (x2 : Int32) (M : zM) : Option (Int32 × zM) := zgR S M (p0) 3 10 0 (fun r1 => zgI S M (r1) 9 7 5 (fun v2 => (if v2 = (4 : Int32) then zgR S M (p0) 3 10 0 (fun r3 => zgI S M (r3) 9 7 6 (fun v4 => (if v4 < x1 then zrc S (p0) 3 10 (zb2 (gX3_fails S (p0) ((2 : Int32)) M) (fun v5 M6 => (if v5 = 0 then some ((0 : Int32), M6) else some ((1 : Int32), M6)))) else zgR S M (p0) 3 10 0 (fun r7 => zgI S M (r7) 9 7 6 (fun v8 => (if v8 ≤ x2 then some ((1 : Int32), M) else zrc S (p0) 3 10 (zb2 (gX3_fails S (p0) ((2 : Int32)) M) (fun v9 M10 => (if v9 = 0 then some ((0 : Int32), M10) else some ((1 : Int32), M10)))))))))) else zrc S (p0) 3 10 (zb2 (gX3_fails S (p0) ((1 : Int32)) M) (fun v11 M12 => zbo (v11) (some (v11, M12)))))))
set_option maxHeartbeats 4000000 in
set_option maxRecDepth 100000 in
theorem c_X3_isNumber (w : zWd) (S : List (Nat × Nat)) (p0 : Nat) (x1 : Int32) (x2 : Int32) (M : zM) : CT (zfIM S) w 2 mX3_isNumber [.ref (p0), .int (x1), .int (x2)] (S, M) (gX3_isNumber S p0 x1 x2 M) := by
  refine CT.of (by decide) (Nat.le_of_ble_eq_true rfl) ?_
  show AJ _ _ _ _ 0 [(0, .ref (p0)), (1, .int (x1)), (2, .int (x2))] [] _ _
  unfold gX3_isNumber
  refine aj_aload_n (0) dX3_isNumber_0 rfl rfl ?_
  refine aj_getR (TX := TX3) zc3 (by decide) rfl (Or.inl zg_284) dX3_isNumber_1 (fun r1 => ?_)
  refine r_getI (TX := TX9) zc9 (by decide) rfl (Or.inr ⟨_, zn_120⟩) dX3_isNumber_4 (fun v2 => ?_)
  refine aj_iconst (v := (4 : Int32)) dX3_isNumber_7 (by decide) ?_
  refine aj_icmp_eq (tgt := 17) dX3_isNumber_8 (by decide) (fun h => ?_) (fun h => ?_)
  · refine aj_aload_n (0) dX3_isNumber_17 rfl rfl ?_
    refine aj_getR (TX := TX3) zc3 (by decide) rfl (Or.inl zg_284) dX3_isNumber_18 (fun r3 => ?_)
    refine r_getI (TX := TX9) zc9 (by decide) rfl (Or.inr ⟨_, zn_122⟩) dX3_isNumber_21 (fun v4 => ?_)
    refine aj_iload_n (1) dX3_isNumber_24 rfl rfl ?_
    refine aj_icmp_lt (tgt := 39) dX3_isNumber_25 (by decide) (fun h => ?_) (fun h => ?_)
    · refine aj_aload_n (0) dX3_isNumber_39 rfl rfl ?_
      refine aj_iconst (v := (2 : Int32)) dX3_isNumber_40 (by decide) ?_
      refine rV_IM (as := [.int ((2 : Int32))]) (c_X3_fails w S _ _ _) mv_X3_fails rfl zg_673 (by decide) (Nat.le_of_ble_eq_true rfl) dX3_isNumber_41 (fun v5 M6 => ?_)
      refine aj_if_eq (tgt := 51) dX3_isNumber_44 (by decide) (fun h => ?_) (fun h => ?_)
      · refine aj_iconst (v := (0 : Int32)) dX3_isNumber_51 (by decide) ?_
        exact aj_iret dX3_isNumber_52 rfl (by decide +kernel) rfl
      refine aj_iconst (v := (1 : Int32)) dX3_isNumber_47 (by decide) ?_
      refine aj_goto (tgt := 52) dX3_isNumber_48 (by decide) ?_
      exact aj_iret dX3_isNumber_52 rfl (by decide +kernel) rfl
    refine aj_aload_n (0) dX3_isNumber_28 rfl rfl ?_
    refine aj_getR (TX := TX3) zc3 (by decide) rfl (Or.inl zg_284) dX3_isNumber_29 (fun r7 => ?_)
    refine r_getI (TX := TX9) zc9 (by decide) rfl (Or.inr ⟨_, zn_122⟩) dX3_isNumber_32 (fun v8 => ?_)
    refine aj_iload_n (2) dX3_isNumber_35 rfl rfl ?_
    refine aj_icmp_le (tgt := 47) dX3_isNumber_36 (by decide) (fun h => ?_) (fun h => ?_)
    · refine aj_iconst (v := (1 : Int32)) dX3_isNumber_47 (by decide) ?_
      refine aj_goto (tgt := 52) dX3_isNumber_48 (by decide) ?_
      exact aj_iret dX3_isNumber_52 rfl (by decide +kernel) rfl
    refine aj_aload_n (0) dX3_isNumber_39 rfl rfl ?_
    refine aj_iconst (v := (2 : Int32)) dX3_isNumber_40 (by decide) ?_
    refine rV_IM (as := [.int ((2 : Int32))]) (c_X3_fails w S _ _ _) mv_X3_fails rfl zg_673 (by decide) (Nat.le_of_ble_eq_true rfl) dX3_isNumber_41 (fun v9 M10 => ?_)
    refine aj_if_eq (tgt := 51) dX3_isNumber_44 (by decide) (fun h => ?_) (fun h => ?_)
    · refine aj_iconst (v := (0 : Int32)) dX3_isNumber_51 (by decide) ?_
      exact aj_iret dX3_isNumber_52 rfl (by decide +kernel) rfl
    refine aj_iconst (v := (1 : Int32)) dX3_isNumber_47 (by decide) ?_
    refine aj_goto (tgt := 52) dX3_isNumber_48 (by decide) ?_
    exact aj_iret dX3_isNumber_52 rfl (by decide +kernel) rfl
  refine aj_aload_n (0) dX3_isNumber_11 rfl rfl ?_
  refine aj_iconst (v := (1 : Int32)) dX3_isNumber_12 (by decide) ?_
  refine rV_IM (as := [.int ((1 : Int32))]) (c_X3_fails w S _ _ _) mv_X3_fails rfl zg_673 (by decide) (Nat.le_of_ble_eq_true rfl) dX3_isNumber_13 (fun v11 M12 => ?_)
  refine r_bo (fun hn => ?_)
  exact aj_iret dX3_isNumber_16 rfl hn rfl
def gX3_isTrade (S : List (Nat × Nat)) (p0 : Nat) (M : zM) : Option (Int32 × zM) := zgR S M (p0) 3 10 0 (fun r1 => zgI S M (r1) 9 7 5 (fun v2 => (if v2 = (2 : Int32) then zgR S M (p0) 3 10 1 (fun r3 => zgR S M (p0) 3 10 0 (fun r4 => zgI S M (r4) 9 7 6 (fun v5 => zrc S (r3) 10 18 ((gX10_tradeNamed S (r3) (v5) M).bind (fun v6 => (if v6 = (-1 : Int32) then zrc S (p0) 3 10 (zb2 (gX3_fails S (p0) ((4 : Int32)) M) (fun v7 M8 => (if v7 = 0 then some ((0 : Int32), M8) else some ((1 : Int32), M8)))) else some ((1 : Int32), M))))))) else zrc S (p0) 3 10 (zb2 (gX3_fails S (p0) ((1 : Int32)) M) (fun v9 M10 => zbo (v9) (some (v9, M10)))))))
set_option maxHeartbeats 4000000 in
set_option maxRecDepth 100000 in
theorem c_X3_isTrade (w : zWd) (S : List (Nat × Nat)) (p0 : Nat) (M : zM) : CT (zfIM S) w 4 mX3_isTrade [.ref (p0)] (S, M) (gX3_isTrade S p0 M) := by
  refine CT.of (by decide) (Nat.le_of_ble_eq_true rfl) ?_
  show AJ _ _ _ _ 0 [(0, .ref (p0))] [] _ _
  unfold gX3_isTrade
  refine aj_aload_n (0) dX3_isTrade_0 rfl rfl ?_
  refine aj_getR (TX := TX3) zc3 (by decide) rfl (Or.inl zg_284) dX3_isTrade_1 (fun r1 => ?_)
  refine r_getI (TX := TX9) zc9 (by decide) rfl (Or.inr ⟨_, zn_120⟩) dX3_isTrade_4 (fun v2 => ?_)
  refine aj_iconst (v := (2 : Int32)) dX3_isTrade_7 (by decide) ?_
  refine aj_icmp_eq (tgt := 17) dX3_isTrade_8 (by decide) (fun h => ?_) (fun h => ?_)
  · refine aj_aload_n (0) dX3_isTrade_17 rfl rfl ?_
    refine aj_getR (TX := TX3) zc3 (by decide) rfl (Or.inl zg_285) dX3_isTrade_18 (fun r3 => ?_)
    refine aj_aload_n (0) dX3_isTrade_21 rfl rfl ?_
    refine aj_getR (TX := TX3) zc3 (by decide) rfl (Or.inl zg_284) dX3_isTrade_22 (fun r4 => ?_)
    refine r_getI (TX := TX9) zc9 (by decide) rfl (Or.inr ⟨_, zn_122⟩) dX3_isTrade_25 (fun v5 => ?_)
    refine rV_I (as := [.int (v5)]) (c_X10_tradeNamed w S _ _ _) mv_X10_tradeNamed rfl zg_686 (by decide) (Nat.le_of_ble_eq_true rfl) dX3_isTrade_28 (fun v6 => ?_)
    refine aj_iconst (v := (-1 : Int32)) dX3_isTrade_31 (by decide) ?_
    refine aj_icmp_ne (tgt := 43) dX3_isTrade_32 (by decide) (fun h => ?_) (fun h => ?_)
    · refine aj_iconst (v := (1 : Int32)) dX3_isTrade_43 (by decide) ?_
      refine aj_goto (tgt := 48) dX3_isTrade_44 (by decide) ?_
      exact aj_iret dX3_isTrade_48 rfl (by decide +kernel) rfl
    refine aj_aload_n (0) dX3_isTrade_35 rfl rfl ?_
    refine aj_iconst (v := (4 : Int32)) dX3_isTrade_36 (by decide) ?_
    refine rV_IM (as := [.int ((4 : Int32))]) (c_X3_fails w S _ _ _) mv_X3_fails rfl zg_673 (by decide) (Nat.le_of_ble_eq_true rfl) dX3_isTrade_37 (fun v7 M8 => ?_)
    refine aj_if_eq (tgt := 47) dX3_isTrade_40 (by decide) (fun h => ?_) (fun h => ?_)
    · refine aj_iconst (v := (0 : Int32)) dX3_isTrade_47 (by decide) ?_
      exact aj_iret dX3_isTrade_48 rfl (by decide +kernel) rfl
    refine aj_iconst (v := (1 : Int32)) dX3_isTrade_43 (by decide) ?_
    refine aj_goto (tgt := 48) dX3_isTrade_44 (by decide) ?_
    exact aj_iret dX3_isTrade_48 rfl (by decide +kernel) rfl
  refine aj_aload_n (0) dX3_isTrade_11 rfl rfl ?_
  refine aj_iconst (v := (1 : Int32)) dX3_isTrade_12 (by decide) ?_
  refine rV_IM (as := [.int ((1 : Int32))]) (c_X3_fails w S _ _ _) mv_X3_fails rfl zg_673 (by decide) (Nat.le_of_ble_eq_true rfl) dX3_isTrade_13 (fun v9 M10 => ?_)
  refine r_bo (fun hn => ?_)
  exact aj_iret dX3_isTrade_16 rfl hn rfl
def gX3_taken (S : List (Nat × Nat)) (p0 : Nat) (M : zM) : Option (Int32 × zM) := zgR S M (p0) 3 10 0 (fun r1 => zgI S M (r1) 9 7 6 (fun v2 => zgR S M (p0) 3 10 0 (fun r3 => zrc S (r3) 9 7 ((gX9_next S (r3) M).bind (fun M4 => some (v2, M4))))))
set_option maxHeartbeats 4000000 in
set_option maxRecDepth 100000 in
theorem c_X3_taken (w : zWd) (S : List (Nat × Nat)) (p0 : Nat) (M : zM) : CT (zfIM S) w 4 mX3_taken [.ref (p0)] (S, M) (gX3_taken S p0 M) := by
  refine CT.of (by decide) (Nat.le_of_ble_eq_true rfl) ?_
  show AJ _ _ _ _ 0 [(0, .ref (p0))] [] _ _
  unfold gX3_taken
  refine aj_aload_n (0) dX3_taken_0 rfl rfl ?_
  refine aj_getR (TX := TX3) zc3 (by decide) rfl (Or.inl zg_284) dX3_taken_1 (fun r1 => ?_)
  refine r_getI (TX := TX9) zc9 (by decide) rfl (Or.inr ⟨_, zn_122⟩) dX3_taken_4 (fun v2 => ?_)
  refine aj_istore_n (ls2 := [(1, .int (v2)), (0, .ref (p0))]) dX3_taken_7 rfl (Nat.le_of_ble_eq_true rfl) rfl ?_
  refine aj_aload_n (1) dX3_taken_8 rfl rfl ?_
  refine aj_getR (TX := TX3) zc3 (by decide) rfl (Or.inl zg_284) dX3_taken_9 (fun r3 => ?_)
  refine rV_VM (as := []) (c_X9_next w S _ _) mv_X9_next rfl zg_681 (by decide) (Nat.le_of_ble_eq_true rfl) dX3_taken_12 (fun M4 => ?_)
  refine aj_iload_n (0) dX3_taken_15 rfl rfl ?_
  exact aj_iret dX3_taken_16 rfl rfl rfl
def gX3_claims (S : List (Nat × Nat)) (p0 : Nat) (M : zM) : Option (Int32 × zM) := zgR S M (p0) 3 10 1 (fun r1 => zgI S M (r1) 10 18 7 (fun v2 => (if v2 < (10 : Int32) then zgR S M (p0) 3 10 0 (fun r3 => zrc S (r3) 9 7 ((gX9_next S (r3) M).bind (fun M4 => zrc S (p0) 3 10 (zb2 (gX3_isTrade S (p0) M4) (fun v5 M6 => (if v5 = 0 then some ((0 : Int32), M6) else zgR S M6 (p0) 3 10 1 (fun r7 => zgR S M6 (r7) 10 18 8 (fun r8 => zgR S M6 (p0) 3 10 1 (fun r9 => zgI S M6 (r9) 10 18 7 (fun v10 => zgR S M6 (p0) 3 10 1 (fun r11 => zrc S (p0) 3 10 (zb2 (gX3_taken S (p0) M6) (fun v12 M13 => zrc S (r11) 10 18 ((gX10_tradeNamed S (r11) (v12) M13).bind (fun v14 => zrc S (r8) 5 1 ((gX5_set S (r8) (v10) (v14) M13).bind (fun M15 => zrc S (p0) 3 10 (zb2 (gX3_isNumber S (p0) ((0 : Int32)) ((99 : Int32)) M15) (fun v16 M17 => (if v16 = 0 then some ((0 : Int32), M17) else zgR S M17 (p0) 3 10 1 (fun r18 => zgR S M17 (p0) 3 10 0 (fun r19 => zgI S M17 (r19) 9 7 6 (fun v20 => zrc S (r18) 10 18 ((gX10_claimant S (r18) (v20) M17).bind (fun v21 => (if v21 = (-1 : Int32) then zgR S M17 (p0) 3 10 1 (fun r22 => zgR S M17 (r22) 10 18 9 (fun r23 => zgR S M17 (p0) 3 10 1 (fun r24 => zgI S M17 (r24) 10 18 7 (fun v25 => zrc S (p0) 3 10 (zb2 (gX3_taken S (p0) M17) (fun v26 M27 => zrc S (r23) 5 1 ((gX5_set S (r23) (v25) (v26) M27).bind (fun M28 => zgR S M28 (p0) 3 10 1 (fun r29 => zgI S M28 (r29) 10 18 7 (fun v30 => zpI S M28 (r29) 10 18 7 ((v30 + (1 : Int32))) (fun M31 => some ((1 : Int32), M31)))))))))))) else zrc S (p0) 3 10 (zb2 (gX3_fails S (p0) ((3 : Int32)) M17) (fun v32 M33 => zbo (v32) (some (v32, M33)))))))))))))))))))))))))))))) else zrc S (p0) 3 10 (zb2 (gX3_fails S (p0) ((2 : Int32)) M) (fun v34 M35 => zbo (v34) (some (v34, M35)))))))
set_option maxHeartbeats 4000000 in
set_option maxRecDepth 100000 in
theorem c_X3_claims (w : zWd) (S : List (Nat × Nat)) (p0 : Nat) (M : zM) : CT (zfIM S) w 5 mX3_claims [.ref (p0)] (S, M) (gX3_claims S p0 M) := by
  refine CT.of (by decide) (Nat.le_of_ble_eq_true rfl) ?_
  show AJ _ _ _ _ 0 [(0, .ref (p0))] [] _ _
  unfold gX3_claims
  refine aj_aload_n (0) dX3_claims_0 rfl rfl ?_
  refine aj_getR (TX := TX3) zc3 (by decide) rfl (Or.inl zg_285) dX3_claims_1 (fun r1 => ?_)
  refine r_getI (TX := TX10) zc10 (by decide) rfl (Or.inr ⟨_, zn_206⟩) dX3_claims_4 (fun v2 => ?_)
  refine aj_bipush (v := (10 : Int32)) dX3_claims_7 (by decide) ?_
  refine aj_icmp_lt (tgt := 18) dX3_claims_9 (by decide) (fun h => ?_) (fun h => ?_)
  · refine aj_aload_n (0) dX3_claims_18 rfl rfl ?_
    refine aj_getR (TX := TX3) zc3 (by decide) rfl (Or.inl zg_284) dX3_claims_19 (fun r3 => ?_)
    refine rV_VM (as := []) (c_X9_next w S _ _) mv_X9_next rfl zg_681 (by decide) (Nat.le_of_ble_eq_true rfl) dX3_claims_22 (fun M4 => ?_)
    refine aj_aload_n (0) dX3_claims_25 rfl rfl ?_
    refine rV_IM (as := []) (c_X3_isTrade w S _ _) mv_X3_isTrade rfl zg_715 (by decide) (Nat.le_of_ble_eq_true rfl) dX3_claims_26 (fun v5 M6 => ?_)
    refine aj_if_ne (tgt := 34) dX3_claims_29 (by decide) (fun h => ?_) (fun h => ?_)
    · refine aj_aload_n (0) dX3_claims_34 rfl rfl ?_
      refine aj_getR (TX := TX3) zc3 (by decide) rfl (Or.inl zg_285) dX3_claims_35 (fun r7 => ?_)
      refine aj_getR (TX := TX10) zc10 (by decide) rfl (Or.inr ⟨_, zn_209⟩) dX3_claims_38 (fun r8 => ?_)
      refine aj_aload_n (0) dX3_claims_41 rfl rfl ?_
      refine aj_getR (TX := TX3) zc3 (by decide) rfl (Or.inl zg_285) dX3_claims_42 (fun r9 => ?_)
      refine r_getI (TX := TX10) zc10 (by decide) rfl (Or.inr ⟨_, zn_206⟩) dX3_claims_45 (fun v10 => ?_)
      refine aj_aload_n (0) dX3_claims_48 rfl rfl ?_
      refine aj_getR (TX := TX3) zc3 (by decide) rfl (Or.inl zg_285) dX3_claims_49 (fun r11 => ?_)
      refine aj_aload_n (0) dX3_claims_52 rfl rfl ?_
      refine rV_IM (as := []) (c_X3_taken w S _ _) mv_X3_taken rfl zg_698 (by decide) (Nat.le_of_ble_eq_true rfl) dX3_claims_53 (fun v12 M13 => ?_)
      refine rV_I (as := [.int (v12)]) (c_X10_tradeNamed w S _ _ _) mv_X10_tradeNamed rfl zg_686 (by decide) (Nat.le_of_ble_eq_true rfl) dX3_claims_56 (fun v14 => ?_)
      refine rV_VM (as := [.int (v10), .int (v14)]) (c_X5_set w S _ _ _ _) mv_X5_set rfl zg_702 (by decide) (Nat.le_of_ble_eq_true rfl) dX3_claims_59 (fun M15 => ?_)
      refine aj_aload_n (0) dX3_claims_62 rfl rfl ?_
      refine aj_iconst (v := (0 : Int32)) dX3_claims_63 (by decide) ?_
      refine aj_bipush (v := (99 : Int32)) dX3_claims_64 (by decide) ?_
      refine rV_IM (as := [.int ((0 : Int32)), .int ((99 : Int32))]) (c_X3_isNumber w S _ _ _ _) mv_X3_isNumber rfl zg_703 (by decide) (Nat.le_of_ble_eq_true rfl) dX3_claims_66 (fun v16 M17 => ?_)
      refine aj_if_ne (tgt := 74) dX3_claims_69 (by decide) (fun h => ?_) (fun h => ?_)
      · refine aj_aload_n (0) dX3_claims_74 rfl rfl ?_
        refine aj_getR (TX := TX3) zc3 (by decide) rfl (Or.inl zg_285) dX3_claims_75 (fun r18 => ?_)
        refine aj_aload_n (0) dX3_claims_78 rfl rfl ?_
        refine aj_getR (TX := TX3) zc3 (by decide) rfl (Or.inl zg_284) dX3_claims_79 (fun r19 => ?_)
        refine r_getI (TX := TX9) zc9 (by decide) rfl (Or.inr ⟨_, zn_122⟩) dX3_claims_82 (fun v20 => ?_)
        refine rV_I (as := [.int (v20)]) (c_X10_claimant w S _ _ _) mv_X10_claimant rfl zg_723 (by decide) (Nat.le_of_ble_eq_true rfl) dX3_claims_85 (fun v21 => ?_)
        refine aj_iconst (v := (-1 : Int32)) dX3_claims_88 (by decide) ?_
        refine aj_icmp_eq (tgt := 98) dX3_claims_89 (by decide) (fun h => ?_) (fun h => ?_)
        · refine aj_aload_n (0) dX3_claims_98 rfl rfl ?_
          refine aj_getR (TX := TX3) zc3 (by decide) rfl (Or.inl zg_285) dX3_claims_99 (fun r22 => ?_)
          refine aj_getR (TX := TX10) zc10 (by decide) rfl (Or.inr ⟨_, zn_211⟩) dX3_claims_102 (fun r23 => ?_)
          refine aj_aload_n (0) dX3_claims_105 rfl rfl ?_
          refine aj_getR (TX := TX3) zc3 (by decide) rfl (Or.inl zg_285) dX3_claims_106 (fun r24 => ?_)
          refine r_getI (TX := TX10) zc10 (by decide) rfl (Or.inr ⟨_, zn_206⟩) dX3_claims_109 (fun v25 => ?_)
          refine aj_aload_n (0) dX3_claims_112 rfl rfl ?_
          refine rV_IM (as := []) (c_X3_taken w S _ _) mv_X3_taken rfl zg_698 (by decide) (Nat.le_of_ble_eq_true rfl) dX3_claims_113 (fun v26 M27 => ?_)
          refine rV_VM (as := [.int (v25), .int (v26)]) (c_X5_set w S _ _ _ _) mv_X5_set rfl zg_702 (by decide) (Nat.le_of_ble_eq_true rfl) dX3_claims_116 (fun M28 => ?_)
          refine aj_aload_n (0) dX3_claims_119 rfl rfl ?_
          refine aj_getR (TX := TX3) zc3 (by decide) rfl (Or.inl zg_285) dX3_claims_120 (fun r29 => ?_)
          refine aj_dup dX3_claims_123 rfl ?_
          refine r_getI (TX := TX10) zc10 (by decide) rfl (Or.inr ⟨_, zn_206⟩) dX3_claims_124 (fun v30 => ?_)
          refine aj_iconst (v := (1 : Int32)) dX3_claims_127 (by decide) ?_
          refine aj_iadd dX3_claims_128 ?_
          refine r_putI (TX := TX10) zc10 (by decide) rfl rfl rfl rfl (Or.inr ⟨_, zn_206⟩) dX3_claims_129 (fun M31 => ?_)
          refine aj_iconst (v := (1 : Int32)) dX3_claims_132 (by decide) ?_
          exact aj_iret dX3_claims_133 rfl (by decide +kernel) rfl
        refine aj_aload_n (0) dX3_claims_92 rfl rfl ?_
        refine aj_iconst (v := (3 : Int32)) dX3_claims_93 (by decide) ?_
        refine rV_IM (as := [.int ((3 : Int32))]) (c_X3_fails w S _ _ _) mv_X3_fails rfl zg_673 (by decide) (Nat.le_of_ble_eq_true rfl) dX3_claims_94 (fun v32 M33 => ?_)
        refine r_bo (fun hn => ?_)
        exact aj_iret dX3_claims_97 rfl hn rfl
      refine aj_iconst (v := (0 : Int32)) dX3_claims_72 (by decide) ?_
      exact aj_iret dX3_claims_73 rfl (by decide +kernel) rfl
    refine aj_iconst (v := (0 : Int32)) dX3_claims_32 (by decide) ?_
    exact aj_iret dX3_claims_33 rfl (by decide +kernel) rfl
  refine aj_aload_n (0) dX3_claims_12 rfl rfl ?_
  refine aj_iconst (v := (2 : Int32)) dX3_claims_13 (by decide) ?_
  refine rV_IM (as := [.int ((2 : Int32))]) (c_X3_fails w S _ _ _) mv_X3_fails rfl zg_673 (by decide) (Nat.le_of_ble_eq_true rfl) dX3_claims_14 (fun v34 M35 => ?_)
  refine r_bo (fun hn => ?_)
  exact aj_iret dX3_claims_17 rfl hn rfl
def gX3_ends (S : List (Nat × Nat)) (p0 : Nat) (M : zM) : Option (Int32 × zM) := zgR S M (p0) 3 10 0 (fun r1 => zgI S M (r1) 9 7 5 (fun v2 => (if v2 = (5 : Int32) then zgR S M (p0) 3 10 0 (fun r3 => zrc S (r3) 9 7 ((gX9_next S (r3) M).bind (fun M4 => some ((1 : Int32), M4)))) else zrc S (p0) 3 10 (zb2 (gX3_fails S (p0) ((1 : Int32)) M) (fun v5 M6 => zbo (v5) (some (v5, M6)))))))
set_option maxHeartbeats 4000000 in
set_option maxRecDepth 100000 in
theorem c_X3_ends (w : zWd) (S : List (Nat × Nat)) (p0 : Nat) (M : zM) : CT (zfIM S) w 4 mX3_ends [.ref (p0)] (S, M) (gX3_ends S p0 M) := by
  refine CT.of (by decide) (Nat.le_of_ble_eq_true rfl) ?_
  show AJ _ _ _ _ 0 [(0, .ref (p0))] [] _ _
  unfold gX3_ends
  refine aj_aload_n (0) dX3_ends_0 rfl rfl ?_
  refine aj_getR (TX := TX3) zc3 (by decide) rfl (Or.inl zg_284) dX3_ends_1 (fun r1 => ?_)
  refine r_getI (TX := TX9) zc9 (by decide) rfl (Or.inr ⟨_, zn_120⟩) dX3_ends_4 (fun v2 => ?_)
  refine aj_iconst (v := (5 : Int32)) dX3_ends_7 (by decide) ?_
  refine aj_icmp_eq (tgt := 17) dX3_ends_8 (by decide) (fun h => ?_) (fun h => ?_)
  · refine aj_aload_n (0) dX3_ends_17 rfl rfl ?_
    refine aj_getR (TX := TX3) zc3 (by decide) rfl (Or.inl zg_284) dX3_ends_18 (fun r3 => ?_)
    refine rV_VM (as := []) (c_X9_next w S _ _) mv_X9_next rfl zg_681 (by decide) (Nat.le_of_ble_eq_true rfl) dX3_ends_21 (fun M4 => ?_)
    refine aj_iconst (v := (1 : Int32)) dX3_ends_24 (by decide) ?_
    exact aj_iret dX3_ends_25 rfl (by decide +kernel) rfl
  refine aj_aload_n (0) dX3_ends_11 rfl rfl ?_
  refine aj_iconst (v := (1 : Int32)) dX3_ends_12 (by decide) ?_
  refine rV_IM (as := [.int ((1 : Int32))]) (c_X3_fails w S _ _ _) mv_X3_fails rfl zg_673 (by decide) (Nat.le_of_ble_eq_true rfl) dX3_ends_13 (fun v5 M6 => ?_)
  refine r_bo (fun hn => ?_)
  exact aj_iret dX3_ends_16 rfl hn rfl
def gX3_counts (S : List (Nat × Nat)) (p0 : Nat) (M : zM) : Option (Int32 × zM) := zgI S M (p0) 3 10 9 (fun v1 => (if v1 < (64 : Int32) then zgI S M (p0) 3 10 9 (fun v2 => zpI S M (p0) 3 10 9 ((v2 + (1 : Int32))) (fun M3 => some ((1 : Int32), M3))) else zrc S (p0) 3 10 (zb2 (gX3_fails S (p0) ((2 : Int32)) M) (fun v4 M5 => zbo (v4) (some (v4, M5))))))
set_option maxHeartbeats 4000000 in
set_option maxRecDepth 100000 in
theorem c_X3_counts (w : zWd) (S : List (Nat × Nat)) (p0 : Nat) (M : zM) : CT (zfIM S) w 2 mX3_counts [.ref (p0)] (S, M) (gX3_counts S p0 M) := by
  refine CT.of (by decide) (Nat.le_of_ble_eq_true rfl) ?_
  show AJ _ _ _ _ 0 [(0, .ref (p0))] [] _ _
  unfold gX3_counts
  refine aj_aload_n (0) dX3_counts_0 rfl rfl ?_
  refine r_getI (TX := TX3) zc3 (by decide) rfl (Or.inl zg_295) dX3_counts_1 (fun v1 => ?_)
  refine aj_bipush (v := (64 : Int32)) dX3_counts_4 (by decide) ?_
  refine aj_icmp_lt (tgt := 15) dX3_counts_6 (by decide) (fun h => ?_) (fun h => ?_)
  · refine aj_aload_n (0) dX3_counts_15 rfl rfl ?_
    refine aj_dup dX3_counts_16 rfl ?_
    refine r_getI (TX := TX3) zc3 (by decide) rfl (Or.inl zg_295) dX3_counts_17 (fun v2 => ?_)
    refine aj_iconst (v := (1 : Int32)) dX3_counts_20 (by decide) ?_
    refine aj_iadd dX3_counts_21 ?_
    refine r_putI (TX := TX3) zc3 (by decide) rfl rfl rfl rfl (Or.inl zg_295) dX3_counts_22 (fun M3 => ?_)
    refine aj_iconst (v := (1 : Int32)) dX3_counts_25 (by decide) ?_
    exact aj_iret dX3_counts_26 rfl (by decide +kernel) rfl
  refine aj_aload_n (0) dX3_counts_9 rfl rfl ?_
  refine aj_iconst (v := (2 : Int32)) dX3_counts_10 (by decide) ?_
  refine rV_IM (as := [.int ((2 : Int32))]) (c_X3_fails w S _ _ _) mv_X3_fails rfl zg_673 (by decide) (Nat.le_of_ble_eq_true rfl) dX3_counts_11 (fun v4 M5 => ?_)
  refine r_bo (fun hn => ?_)
  exact aj_iret dX3_counts_14 rfl hn rfl
def gX3_hold (S : List (Nat × Nat)) (p0 : Nat) (x1 : Int32) (M : zM) : Option (Int32 × zM) := zgR S M (p0) 3 10 6 (fun r1 => zgI S M (p0) 3 10 7 (fun v2 => zrc S (r1) 5 1 ((gX5_set S (r1) (v2) (x1) M).bind (fun M3 => zgI S M3 (p0) 3 10 7 (fun v4 => zpI S M3 (p0) 3 10 7 ((v4 + (1 : Int32))) (fun M5 => some ((1 : Int32), M5)))))))
set_option maxHeartbeats 4000000 in
set_option maxRecDepth 100000 in
theorem c_X3_hold (w : zWd) (S : List (Nat × Nat)) (p0 : Nat) (x1 : Int32) (M : zM) : CT (zfIM S) w 2 mX3_hold [.ref (p0), .int (x1)] (S, M) (gX3_hold S p0 x1 M) := by
  refine CT.of (by decide) (Nat.le_of_ble_eq_true rfl) ?_
  show AJ _ _ _ _ 0 [(0, .ref (p0)), (1, .int (x1))] [] _ _
  unfold gX3_hold
  refine aj_aload_n (0) dX3_hold_0 rfl rfl ?_
  refine aj_getR (TX := TX3) zc3 (by decide) rfl (Or.inl zg_292) dX3_hold_1 (fun r1 => ?_)
  refine aj_aload_n (0) dX3_hold_4 rfl rfl ?_
  refine r_getI (TX := TX3) zc3 (by decide) rfl (Or.inl zg_293) dX3_hold_5 (fun v2 => ?_)
  refine aj_iload_n (1) dX3_hold_8 rfl rfl ?_
  refine rV_VM (as := [.int (v2), .int (x1)]) (c_X5_set w S _ _ _ _) mv_X5_set rfl zg_702 (by decide) (Nat.le_of_ble_eq_true rfl) dX3_hold_9 (fun M3 => ?_)
  refine aj_aload_n (0) dX3_hold_12 rfl rfl ?_
  refine aj_dup dX3_hold_13 rfl ?_
  refine r_getI (TX := TX3) zc3 (by decide) rfl (Or.inl zg_293) dX3_hold_14 (fun v4 => ?_)
  refine aj_iconst (v := (1 : Int32)) dX3_hold_17 (by decide) ?_
  refine aj_iadd dX3_hold_18 ?_
  refine r_putI (TX := TX3) zc3 (by decide) rfl rfl rfl rfl (Or.inl zg_293) dX3_hold_19 (fun M5 => ?_)
  refine aj_iconst (v := (1 : Int32)) dX3_hold_22 (by decide) ?_
  exact aj_iret dX3_hold_23 rfl (by decide +kernel) rfl
def gX3_rank (S : List (Nat × Nat)) (x0 : Int32) (M : zM) : Option Int32 := (if x0 < (14 : Int32) then (if x0 < (12 : Int32) then (if x0 < (6 : Int32) then some ((x0 - (2 : Int32))) else some ((4 : Int32))) else some ((5 : Int32))) else some ((6 : Int32)))
set_option maxHeartbeats 4000000 in
set_option maxRecDepth 100000 in
theorem c_X3_rank (w : zWd) (S : List (Nat × Nat)) (x0 : Int32) (M : zM) : CT (zfI S M) w 1 mX3_rank [.int (x0)] (S, M) (gX3_rank S x0 M) := by
  refine CT.of (by decide) (Nat.le_of_ble_eq_true rfl) ?_
  show AJ _ _ _ _ 0 [(0, .int (x0))] [] _ _
  unfold gX3_rank
  refine aj_iload_n (0) dX3_rank_0 rfl rfl ?_
  refine aj_bipush (v := (14 : Int32)) dX3_rank_1 (by decide) ?_
  refine aj_icmp_lt (tgt := 9) dX3_rank_3 (by decide) (fun h => ?_) (fun h => ?_)
  · refine aj_iload_n (0) dX3_rank_9 rfl rfl ?_
    refine aj_bipush (v := (12 : Int32)) dX3_rank_10 (by decide) ?_
    refine aj_icmp_lt (tgt := 17) dX3_rank_12 (by decide) (fun h => ?_) (fun h => ?_)
    · refine aj_iload_n (0) dX3_rank_17 rfl rfl ?_
      refine aj_bipush (v := (6 : Int32)) dX3_rank_18 (by decide) ?_
      refine aj_icmp_lt (tgt := 27) dX3_rank_20 (by decide) (fun h => ?_) (fun h => ?_)
      · refine aj_iload_n (0) dX3_rank_27 rfl rfl ?_
        refine aj_iconst (v := (2 : Int32)) dX3_rank_28 (by decide) ?_
        refine aj_isub dX3_rank_29 ?_
        exact aj_iret dX3_rank_30 rfl rfl rfl
      refine aj_iconst (v := (4 : Int32)) dX3_rank_23 (by decide) ?_
      refine aj_goto (tgt := 30) dX3_rank_24 (by decide) ?_
      exact aj_iret dX3_rank_30 rfl rfl rfl
    refine aj_iconst (v := (5 : Int32)) dX3_rank_15 (by decide) ?_
    exact aj_iret dX3_rank_16 rfl rfl rfl
  refine aj_bipush (v := (6 : Int32)) dX3_rank_6 (by decide) ?_
  exact aj_iret dX3_rank_8 rfl rfl rfl
def gX3_tells (S : List (Nat × Nat)) (p0 : Nat) (x1 : Int32) (x2 : Int32) (M : zM) : Option (Int32 × zM) := zgR S M (p0) 3 10 1 (fun r1 => zgR S M (r1) 10 18 17 (fun r2 => zrc S (r2) 1 7 ((gX1_add S (r2) (x1) (x2) M).bind (fun M3 => some ((1 : Int32), M3)))))
set_option maxHeartbeats 4000000 in
set_option maxRecDepth 100000 in
theorem c_X3_tells (w : zWd) (S : List (Nat × Nat)) (p0 : Nat) (x1 : Int32) (x2 : Int32) (M : zM) : CT (zfIM S) w 3 mX3_tells [.ref (p0), .int (x1), .int (x2)] (S, M) (gX3_tells S p0 x1 x2 M) := by
  refine CT.of (by decide) (Nat.le_of_ble_eq_true rfl) ?_
  show AJ _ _ _ _ 0 [(0, .ref (p0)), (1, .int (x1)), (2, .int (x2))] [] _ _
  unfold gX3_tells
  refine aj_aload_n (0) dX3_tells_0 rfl rfl ?_
  refine aj_getR (TX := TX3) zc3 (by decide) rfl (Or.inl zg_285) dX3_tells_1 (fun r1 => ?_)
  refine aj_getR (TX := TX10) zc10 (by decide) rfl (Or.inr ⟨_, zn_243⟩) dX3_tells_4 (fun r2 => ?_)
  refine aj_iload_n (1) dX3_tells_7 rfl rfl ?_
  refine aj_iload_n (2) dX3_tells_8 rfl rfl ?_
  refine rV_VM (as := [.int (x1), .int (x2)]) (c_X1_add w S _ _ _ _) mv_X1_add rfl zg_766 (by decide) (Nat.le_of_ble_eq_true rfl) dX3_tells_9 (fun M3 => ?_)
  refine aj_iconst (v := (1 : Int32)) dX3_tells_12 (by decide) ?_
  exact aj_iret dX3_tells_13 rfl (by decide +kernel) rfl
def gX3_topWaiting (S : List (Nat × Nat)) (p0 : Nat) (M : zM) : Option Int32 := zgI S M (p0) 3 10 7 (fun v1 => (if v1 ≤ 0 then some ((2 : Int32)) else zgR S M (p0) 3 10 6 (fun r2 => zgI S M (p0) 3 10 7 (fun v3 => zrc S (r2) 5 1 ((gX5_get S (r2) ((v3 - (1 : Int32))) M).bind (fun v4 => some (v4)))))))
set_option maxHeartbeats 4000000 in
set_option maxRecDepth 100000 in
theorem c_X3_topWaiting (w : zWd) (S : List (Nat × Nat)) (p0 : Nat) (M : zM) : CT (zfI S M) w 2 mX3_topWaiting [.ref (p0)] (S, M) (gX3_topWaiting S p0 M) := by
  refine CT.of (by decide) (Nat.le_of_ble_eq_true rfl) ?_
  show AJ _ _ _ _ 0 [(0, .ref (p0))] [] _ _
  unfold gX3_topWaiting
  refine aj_aload_n (0) dX3_topWaiting_0 rfl rfl ?_
  refine r_getI (TX := TX3) zc3 (by decide) rfl (Or.inl zg_293) dX3_topWaiting_1 (fun v1 => ?_)
  refine aj_if_le (tgt := 23) dX3_topWaiting_4 (by decide) (fun h => ?_) (fun h => ?_)
  · refine aj_iconst (v := (2 : Int32)) dX3_topWaiting_23 (by decide) ?_
    exact aj_iret dX3_topWaiting_24 rfl rfl rfl
  refine aj_aload_n (0) dX3_topWaiting_7 rfl rfl ?_
  refine aj_getR (TX := TX3) zc3 (by decide) rfl (Or.inl zg_292) dX3_topWaiting_8 (fun r2 => ?_)
  refine aj_aload_n (0) dX3_topWaiting_11 rfl rfl ?_
  refine r_getI (TX := TX3) zc3 (by decide) rfl (Or.inl zg_293) dX3_topWaiting_12 (fun v3 => ?_)
  refine aj_iconst (v := (1 : Int32)) dX3_topWaiting_15 (by decide) ?_
  refine aj_isub dX3_topWaiting_16 ?_
  refine rV_I (as := [.int ((v3 - (1 : Int32)))]) (c_X5_get w S _ _ _) mv_X5_get rfl zg_778 (by decide) (Nat.le_of_ble_eq_true rfl) dX3_topWaiting_17 (fun v4 => ?_)
  refine aj_goto (tgt := 24) dX3_topWaiting_20 (by decide) ?_
  exact aj_iret dX3_topWaiting_24 rfl rfl rfl
def gX3_beginsPart_159 (S : List (Nat × Nat)) (p0 : Nat) (x0s : Int32) (M : zM) : Option (Int32 × zM) := (if x0s = 0 then zrc S (p0) 3 10 (zb2 (gX3_fails S (p0) ((1 : Int32)) M) (fun v1 M2 => zbo (v1) (some (v1, M2)))) else zrc S (p0) 3 10 ((gX3_topWaiting S (p0) M).bind (fun v3 => (gX3_rank S (v3) M).bind (fun v4 => (gX3_rank S ((5 : Int32)) M).bind (fun v5 => (if v4 ≤ v5 then zrc S (p0) 3 10 (zb2 (gX3_counts S (p0) M) (fun v6 M7 => (if v6 = 0 then some ((0 : Int32), M7) else zrc S (p0) 3 10 (zb2 (gX3_hold S (p0) ((5 : Int32)) M7) (fun v8 M9 => (if v8 = 0 then some ((0 : Int32), M9) else some ((1 : Int32), M9))))))) else zrc S (p0) 3 10 (zb2 (gX3_fails S (p0) ((1 : Int32)) M) (fun v10 M11 => zbo (v10) (some (v10, M11))))))))))
set_option maxHeartbeats 4000000 in
set_option maxRecDepth 100000 in
theorem t_X3_beginsPart_159 (w : zWd) (S : List (Nat × Nat)) (p0 : Nat) (x0s : Int32) (M : zM) : AJ (zfIM S) w 4 mX3_beginsPart 159 [(0, .ref (p0))] [.int (x0s)] (S, M) (gX3_beginsPart_159 S p0 x0s M) := by
  unfold gX3_beginsPart_159
  refine aj_istore_n (ls2 := [(2, .int (x0s)), (0, .ref (p0))]) dX3_beginsPart_159 rfl (Nat.le_of_ble_eq_true rfl) rfl ?_
  refine aj_iload_n (0) dX3_beginsPart_160 rfl rfl ?_
  refine aj_if_eq (tgt := 178) dX3_beginsPart_161 (by decide) (fun h => ?_) (fun h => ?_)
  · refine aj_aload_n (1) dX3_beginsPart_178 rfl rfl ?_
    refine aj_iconst (v := (1 : Int32)) dX3_beginsPart_179 (by decide) ?_
    refine rV_IM (as := [.int ((1 : Int32))]) (c_X3_fails w S _ _ _) mv_X3_fails rfl zg_673 (by decide) (Nat.le_of_ble_eq_true rfl) dX3_beginsPart_180 (fun v1 M2 => ?_)
    refine r_bo (fun hn => ?_)
    exact aj_iret dX3_beginsPart_183 rfl hn rfl
  refine aj_aload_n (1) dX3_beginsPart_164 rfl rfl ?_
  refine rV_I (as := []) (c_X3_topWaiting w S _ _) mv_X3_topWaiting rfl zg_774 (by decide) (Nat.le_of_ble_eq_true rfl) dX3_beginsPart_165 (fun v3 => ?_)
  refine rS_I (as := [.int (v3)]) (c_X3_rank w S _ _) ms_X3_rank rfl zg_779 (by decide) (Nat.le_of_ble_eq_true rfl) dX3_beginsPart_168 (fun v4 => ?_)
  refine aj_iconst (v := (5 : Int32)) dX3_beginsPart_171 (by decide) ?_
  refine rS_I (as := [.int ((5 : Int32))]) (c_X3_rank w S _ _) ms_X3_rank rfl zg_779 (by decide) (Nat.le_of_ble_eq_true rfl) dX3_beginsPart_172 (fun v5 => ?_)
  refine aj_icmp_le (tgt := 184) dX3_beginsPart_175 (by decide) (fun h => ?_) (fun h => ?_)
  · refine aj_aload_n (1) dX3_beginsPart_184 rfl rfl ?_
    refine rV_IM (as := []) (c_X3_counts w S _ _) mv_X3_counts rfl zg_758 (by decide) (Nat.le_of_ble_eq_true rfl) dX3_beginsPart_185 (fun v6 M7 => ?_)
    refine aj_if_eq (tgt := 203) dX3_beginsPart_188 (by decide) (fun h => ?_) (fun h => ?_)
    · refine aj_iconst (v := (0 : Int32)) dX3_beginsPart_203 (by decide) ?_
      exact aj_iret dX3_beginsPart_204 rfl (by decide +kernel) rfl
    refine aj_aload_n (1) dX3_beginsPart_191 rfl rfl ?_
    refine aj_iconst (v := (5 : Int32)) dX3_beginsPart_192 (by decide) ?_
    refine rV_IM (as := [.int ((5 : Int32))]) (c_X3_hold w S _ _ _) mv_X3_hold rfl zg_770 (by decide) (Nat.le_of_ble_eq_true rfl) dX3_beginsPart_193 (fun v8 M9 => ?_)
    refine aj_if_eq (tgt := 203) dX3_beginsPart_196 (by decide) (fun h => ?_) (fun h => ?_)
    · refine aj_iconst (v := (0 : Int32)) dX3_beginsPart_203 (by decide) ?_
      exact aj_iret dX3_beginsPart_204 rfl (by decide +kernel) rfl
    refine aj_iconst (v := (1 : Int32)) dX3_beginsPart_199 (by decide) ?_
    refine aj_goto (tgt := 204) dX3_beginsPart_200 (by decide) ?_
    exact aj_iret dX3_beginsPart_204 rfl (by decide +kernel) rfl
  refine aj_aload_n (1) dX3_beginsPart_178 rfl rfl ?_
  refine aj_iconst (v := (1 : Int32)) dX3_beginsPart_179 (by decide) ?_
  refine rV_IM (as := [.int ((1 : Int32))]) (c_X3_fails w S _ _ _) mv_X3_fails rfl zg_673 (by decide) (Nat.le_of_ble_eq_true rfl) dX3_beginsPart_180 (fun v10 M11 => ?_)
  refine r_bo (fun hn => ?_)
  exact aj_iret dX3_beginsPart_183 rfl hn rfl
def gX3_beginsPart_94 (S : List (Nat × Nat)) (p0 : Nat) (x1 : Int32) (M : zM) : Option (Int32 × zM) := zgR S M (p0) 3 10 0 (fun r1 => zgI S M (r1) 9 7 5 (fun v2 => (if v2 = (6 : Int32) then zgI S M (p0) 3 10 8 (fun v5 => (if v5 < (8 : Int32) then zgI S M (p0) 3 10 8 (fun v6 => zpI S M (p0) 3 10 8 ((v6 + (1 : Int32))) (fun M7 => zrc S (p0) 3 10 (zb2 (gX3_hold S (p0) ((2 : Int32)) M7) (fun v8 M9 => zbo (v8) (some (v8, M9)))))) else zrc S (p0) 3 10 (zb2 (gX3_fails S (p0) ((2 : Int32)) M) (fun v10 M11 => zbo (v10) (some (v10, M11)))))) else zgR S M (p0) 3 10 0 (fun r3 => zgI S M (r3) 9 7 5 (fun v4 => (if v4 = (8 : Int32) then (if x1 = (5 : Int32) then gX3_beginsPart_159 S (p0) ((1 : Int32)) M else gX3_beginsPart_159 S (p0) ((0 : Int32)) M) else gX3_beginsPart_159 S (p0) ((0 : Int32)) M))))))
set_option maxHeartbeats 4000000 in
set_option maxRecDepth 100000 in
theorem t_X3_beginsPart_94 (w : zWd) (S : List (Nat × Nat)) (p0 : Nat) (x1 : Int32) (M : zM) : AJ (zfIM S) w 4 mX3_beginsPart 94 [(0, .ref (p0)), (1, .int (x1))] [] (S, M) (gX3_beginsPart_94 S p0 x1 M) := by
  unfold gX3_beginsPart_94
  refine aj_aload_n (0) dX3_beginsPart_94 rfl rfl ?_
  refine aj_getR (TX := TX3) zc3 (by decide) rfl (Or.inl zg_284) dX3_beginsPart_95 (fun r1 => ?_)
  refine r_getI (TX := TX9) zc9 (by decide) rfl (Or.inr ⟨_, zn_120⟩) dX3_beginsPart_98 (fun v2 => ?_)
  refine aj_bipush (v := (6 : Int32)) dX3_beginsPart_101 (by decide) ?_
  refine aj_icmp_ne (tgt := 137) dX3_beginsPart_103 (by decide) (fun h => ?_) (fun h => ?_)
  · refine aj_aload_n (0) dX3_beginsPart_137 rfl rfl ?_
    refine aj_getR (TX := TX3) zc3 (by decide) rfl (Or.inl zg_284) dX3_beginsPart_138 (fun r3 => ?_)
    refine r_getI (TX := TX9) zc9 (by decide) rfl (Or.inr ⟨_, zn_120⟩) dX3_beginsPart_141 (fun v4 => ?_)
    refine aj_bipush (v := (8 : Int32)) dX3_beginsPart_144 (by decide) ?_
    refine aj_icmp_ne (tgt := 158) dX3_beginsPart_146 (by decide) (fun h => ?_) (fun h => ?_)
    · refine aj_iconst (v := (0 : Int32)) dX3_beginsPart_158 (by decide) ?_
      refine AJ.sub [0] rfl ?_
      exact t_X3_beginsPart_159 w S (p0) ((0 : Int32)) M
    refine aj_iload_n (1) dX3_beginsPart_149 rfl rfl ?_
    refine aj_iconst (v := (5 : Int32)) dX3_beginsPart_150 (by decide) ?_
    refine aj_icmp_ne (tgt := 158) dX3_beginsPart_151 (by decide) (fun h => ?_) (fun h => ?_)
    · refine aj_iconst (v := (0 : Int32)) dX3_beginsPart_158 (by decide) ?_
      refine AJ.sub [0] rfl ?_
      exact t_X3_beginsPart_159 w S (p0) ((0 : Int32)) M
    refine aj_iconst (v := (1 : Int32)) dX3_beginsPart_154 (by decide) ?_
    refine aj_goto (tgt := 159) dX3_beginsPart_155 (by decide) ?_
    refine AJ.sub [0] rfl ?_
    exact t_X3_beginsPart_159 w S (p0) ((1 : Int32)) M
  refine aj_aload_n (0) dX3_beginsPart_106 rfl rfl ?_
  refine r_getI (TX := TX3) zc3 (by decide) rfl (Or.inl zg_294) dX3_beginsPart_107 (fun v5 => ?_)
  refine aj_bipush (v := (8 : Int32)) dX3_beginsPart_110 (by decide) ?_
  refine aj_icmp_lt (tgt := 121) dX3_beginsPart_112 (by decide) (fun h => ?_) (fun h => ?_)
  · refine aj_aload_n (0) dX3_beginsPart_121 rfl rfl ?_
    refine aj_dup dX3_beginsPart_122 rfl ?_
    refine r_getI (TX := TX3) zc3 (by decide) rfl (Or.inl zg_294) dX3_beginsPart_123 (fun v6 => ?_)
    refine aj_iconst (v := (1 : Int32)) dX3_beginsPart_126 (by decide) ?_
    refine aj_iadd dX3_beginsPart_127 ?_
    refine r_putI (TX := TX3) zc3 (by decide) rfl rfl rfl rfl (Or.inl zg_294) dX3_beginsPart_128 (fun M7 => ?_)
    refine aj_aload_n (0) dX3_beginsPart_131 rfl rfl ?_
    refine aj_iconst (v := (2 : Int32)) dX3_beginsPart_132 (by decide) ?_
    refine rV_IM (as := [.int ((2 : Int32))]) (c_X3_hold w S _ _ _) mv_X3_hold rfl zg_770 (by decide) (Nat.le_of_ble_eq_true rfl) dX3_beginsPart_133 (fun v8 M9 => ?_)
    refine r_bo (fun hn => ?_)
    exact aj_iret dX3_beginsPart_136 rfl hn rfl
  refine aj_aload_n (0) dX3_beginsPart_115 rfl rfl ?_
  refine aj_iconst (v := (2 : Int32)) dX3_beginsPart_116 (by decide) ?_
  refine rV_IM (as := [.int ((2 : Int32))]) (c_X3_fails w S _ _ _) mv_X3_fails rfl zg_673 (by decide) (Nat.le_of_ble_eq_true rfl) dX3_beginsPart_117 (fun v10 M11 => ?_)
  refine r_bo (fun hn => ?_)
  exact aj_iret dX3_beginsPart_120 rfl hn rfl
def gX3_beginsPart (S : List (Nat × Nat)) (p0 : Nat) (M : zM) : Option (Int32 × zM) := zgR S M (p0) 3 10 0 (fun r1 => zgI S M (r1) 9 7 6 (fun v2 => zgR S M (p0) 3 10 0 (fun r3 => zgI S M (r3) 9 7 5 (fun v4 => (if v4 = (4 : Int32) then zrc S (p0) 3 10 (zb2 (gX3_isNumber S (p0) ((0 : Int32)) ((9999 : Int32)) M) (fun v11 M12 => (if v11 = 0 then some ((0 : Int32), M12) else zrc S (p0) 3 10 (zb2 (gX3_counts S (p0) M12) (fun v13 M14 => (if v13 = 0 then some ((0 : Int32), M14) else zrc S (p0) 3 10 (zb2 (gX3_tells S (p0) ((0 : Int32)) (v2) M14) (fun v15 M16 => (if v15 = 0 then some ((0 : Int32), M16) else some ((1 : Int32), M16)))))))))) else zgR S M (p0) 3 10 0 (fun r5 => zgI S M (r5) 9 7 5 (fun v6 => (if v6 = (3 : Int32) then (if v2 < (13 : Int32) then gX3_beginsPart_94 S (p0) (v2) M else zrc S (p0) 3 10 (zb2 (gX3_counts S (p0) M) (fun v7 M8 => (if v7 = 0 then some ((0 : Int32), M8) else zrc S (p0) 3 10 (zb2 (gX3_tells S (p0) ((1 : Int32)) ((v2 - (13 : Int32))) M8) (fun v9 M10 => (if v9 = 0 then some ((0 : Int32), M10) else some ((1 : Int32), M10)))))))) else gX3_beginsPart_94 S (p0) (v2) M))))))))
set_option maxHeartbeats 4000000 in
set_option maxRecDepth 100000 in
theorem c_X3_beginsPart (w : zWd) (S : List (Nat × Nat)) (p0 : Nat) (M : zM) : CT (zfIM S) w 4 mX3_beginsPart [.ref (p0)] (S, M) (gX3_beginsPart S p0 M) := by
  refine CT.of (by decide) (Nat.le_of_ble_eq_true rfl) ?_
  show AJ _ _ _ _ 0 [(0, .ref (p0))] [] _ _
  unfold gX3_beginsPart
  refine aj_aload_n (0) dX3_beginsPart_0 rfl rfl ?_
  refine aj_getR (TX := TX3) zc3 (by decide) rfl (Or.inl zg_284) dX3_beginsPart_1 (fun r1 => ?_)
  refine r_getI (TX := TX9) zc9 (by decide) rfl (Or.inr ⟨_, zn_122⟩) dX3_beginsPart_4 (fun v2 => ?_)
  refine aj_istore_n (ls2 := [(1, .int (v2)), (0, .ref (p0))]) dX3_beginsPart_7 rfl (Nat.le_of_ble_eq_true rfl) rfl ?_
  refine aj_aload_n (1) dX3_beginsPart_8 rfl rfl ?_
  refine aj_getR (TX := TX3) zc3 (by decide) rfl (Or.inl zg_284) dX3_beginsPart_9 (fun r3 => ?_)
  refine r_getI (TX := TX9) zc9 (by decide) rfl (Or.inr ⟨_, zn_120⟩) dX3_beginsPart_12 (fun v4 => ?_)
  refine aj_iconst (v := (4 : Int32)) dX3_beginsPart_15 (by decide) ?_
  refine aj_icmp_ne (tgt := 52) dX3_beginsPart_16 (by decide) (fun h => ?_) (fun h => ?_)
  · refine aj_aload_n (1) dX3_beginsPart_52 rfl rfl ?_
    refine aj_getR (TX := TX3) zc3 (by decide) rfl (Or.inl zg_284) dX3_beginsPart_53 (fun r5 => ?_)
    refine r_getI (TX := TX9) zc9 (by decide) rfl (Or.inr ⟨_, zn_120⟩) dX3_beginsPart_56 (fun v6 => ?_)
    refine aj_iconst (v := (3 : Int32)) dX3_beginsPart_59 (by decide) ?_
    refine aj_icmp_ne (tgt := 94) dX3_beginsPart_60 (by decide) (fun h => ?_) (fun h => ?_)
    · refine AJ.sub [1, 0] rfl ?_
      exact t_X3_beginsPart_94 w S (p0) (v2) M
    refine aj_iload_n (0) dX3_beginsPart_63 rfl rfl ?_
    refine aj_bipush (v := (13 : Int32)) dX3_beginsPart_64 (by decide) ?_
    refine aj_icmp_lt (tgt := 94) dX3_beginsPart_66 (by decide) (fun h => ?_) (fun h => ?_)
    · refine AJ.sub [1, 0] rfl ?_
      exact t_X3_beginsPart_94 w S (p0) (v2) M
    refine aj_aload_n (1) dX3_beginsPart_69 rfl rfl ?_
    refine rV_IM (as := []) (c_X3_counts w S _ _) mv_X3_counts rfl zg_758 (by decide) (Nat.le_of_ble_eq_true rfl) dX3_beginsPart_70 (fun v7 M8 => ?_)
    refine aj_if_eq (tgt := 92) dX3_beginsPart_73 (by decide) (fun h => ?_) (fun h => ?_)
    · refine aj_iconst (v := (0 : Int32)) dX3_beginsPart_92 (by decide) ?_
      exact aj_iret dX3_beginsPart_93 rfl (by decide +kernel) rfl
    refine aj_aload_n (1) dX3_beginsPart_76 rfl rfl ?_
    refine aj_iconst (v := (1 : Int32)) dX3_beginsPart_77 (by decide) ?_
    refine aj_iload_n (0) dX3_beginsPart_78 rfl rfl ?_
    refine aj_bipush (v := (13 : Int32)) dX3_beginsPart_79 (by decide) ?_
    refine aj_isub dX3_beginsPart_81 ?_
    refine rV_IM (as := [.int ((1 : Int32)), .int ((v2 - (13 : Int32)))]) (c_X3_tells w S _ _ _ _) mv_X3_tells rfl zg_762 (by decide) (Nat.le_of_ble_eq_true rfl) dX3_beginsPart_82 (fun v9 M10 => ?_)
    refine aj_if_eq (tgt := 92) dX3_beginsPart_85 (by decide) (fun h => ?_) (fun h => ?_)
    · refine aj_iconst (v := (0 : Int32)) dX3_beginsPart_92 (by decide) ?_
      exact aj_iret dX3_beginsPart_93 rfl (by decide +kernel) rfl
    refine aj_iconst (v := (1 : Int32)) dX3_beginsPart_88 (by decide) ?_
    refine aj_goto (tgt := 93) dX3_beginsPart_89 (by decide) ?_
    exact aj_iret dX3_beginsPart_93 rfl (by decide +kernel) rfl
  refine aj_aload_n (1) dX3_beginsPart_19 rfl rfl ?_
  refine aj_iconst (v := (0 : Int32)) dX3_beginsPart_20 (by decide) ?_
  refine aj_sipush (v := (9999 : Int32)) dX3_beginsPart_21 (by decide) ?_
  refine rV_IM (as := [.int ((0 : Int32)), .int ((9999 : Int32))]) (c_X3_isNumber w S _ _ _ _) mv_X3_isNumber rfl zg_703 (by decide) (Nat.le_of_ble_eq_true rfl) dX3_beginsPart_24 (fun v11 M12 => ?_)
  refine aj_if_eq (tgt := 50) dX3_beginsPart_27 (by decide) (fun h => ?_) (fun h => ?_)
  · refine aj_iconst (v := (0 : Int32)) dX3_beginsPart_50 (by decide) ?_
    exact aj_iret dX3_beginsPart_51 rfl (by decide +kernel) rfl
  refine aj_aload_n (1) dX3_beginsPart_30 rfl rfl ?_
  refine rV_IM (as := []) (c_X3_counts w S _ _) mv_X3_counts rfl zg_758 (by decide) (Nat.le_of_ble_eq_true rfl) dX3_beginsPart_31 (fun v13 M14 => ?_)
  refine aj_if_eq (tgt := 50) dX3_beginsPart_34 (by decide) (fun h => ?_) (fun h => ?_)
  · refine aj_iconst (v := (0 : Int32)) dX3_beginsPart_50 (by decide) ?_
    exact aj_iret dX3_beginsPart_51 rfl (by decide +kernel) rfl
  refine aj_aload_n (1) dX3_beginsPart_37 rfl rfl ?_
  refine aj_iconst (v := (0 : Int32)) dX3_beginsPart_38 (by decide) ?_
  refine aj_iload_n (0) dX3_beginsPart_39 rfl rfl ?_
  refine rV_IM (as := [.int ((0 : Int32)), .int (v2)]) (c_X3_tells w S _ _ _ _) mv_X3_tells rfl zg_762 (by decide) (Nat.le_of_ble_eq_true rfl) dX3_beginsPart_40 (fun v15 M16 => ?_)
  refine aj_if_eq (tgt := 50) dX3_beginsPart_43 (by decide) (fun h => ?_) (fun h => ?_)
  · refine aj_iconst (v := (0 : Int32)) dX3_beginsPart_50 (by decide) ?_
    exact aj_iret dX3_beginsPart_51 rfl (by decide +kernel) rfl
  refine aj_iconst (v := (1 : Int32)) dX3_beginsPart_46 (by decide) ?_
  refine aj_goto (tgt := 51) dX3_beginsPart_47 (by decide) ?_
  exact aj_iret dX3_beginsPart_51 rfl (by decide +kernel) rfl
def gX3_unwind_7 (S : List (Nat × Nat)) : Nat → Nat → Int32 → Int32 → zM → Option zM
  | 0 => fun _ _ _ _ => none
  | n + 1 => fun p0 x1 x2 M => (if x2 < 0 then some M else zgR S M (p0) 3 10 6 (fun r1 => zrc S (r1) 5 1 ((gX5_get S (r1) (x2) M).bind (fun v2 => (gX3_rank S (v2) M).bind (fun v3 => (if v3 < x1 then some M else zgR S M (p0) 3 10 1 (fun r4 => zgR S M (r4) 10 18 17 (fun r5 => zgR S M (p0) 3 10 6 (fun r6 => zrc S (r6) 5 1 ((gX5_get S (r6) (x2) M).bind (fun v7 => zrc S (r5) 1 7 ((gX1_add S (r5) (v7) ((0 : Int32)) M).bind (fun M8 => zpI S M8 (p0) 3 10 7 (x2) (fun M9 => (gX3_unwind_7 S   n) (p0) (x1) ((x2 + (-1 : Int32))) M9))))))))))))))
set_option maxHeartbeats 4000000 in
set_option maxRecDepth 100000 in
theorem t_X3_unwind_7 (w : zWd) (S : List (Nat × Nat)) (fu : Nat) : ∀ (p0 : Nat) (x1 : Int32) (x2 : Int32) (M : zM), AJ (zfVM S) w 3 mX3_unwind 7 [(0, .ref (p0)), (1, .int (x1)), (2, .int (x2))] [] (S, M) (gX3_unwind_7 S fu p0 x1 x2 M) := by
  induction fu with
  | zero => intro p0 x1 x2 M; exact AJ.none
  | succ n ih =>
    intro p0 x1 x2 M
    unfold gX3_unwind_7
    refine aj_iload_n (2) dX3_unwind_7 rfl rfl ?_
    refine aj_if_lt (tgt := 56) dX3_unwind_8 (by decide) (fun h => ?_) (fun h => ?_)
    · exact aj_vret dX3_unwind_56 rfl rfl
    refine aj_aload_n (0) dX3_unwind_11 rfl rfl ?_
    refine aj_getR (TX := TX3) zc3 (by decide) rfl (Or.inl zg_292) dX3_unwind_12 (fun r1 => ?_)
    refine aj_iload_n (2) dX3_unwind_15 rfl rfl ?_
    refine rV_I (as := [.int (x2)]) (c_X5_get w S _ _ _) mv_X5_get rfl zg_778 (by decide) (Nat.le_of_ble_eq_true rfl) dX3_unwind_16 (fun v2 => ?_)
    refine rS_I (as := [.int (v2)]) (c_X3_rank w S _ _) ms_X3_rank rfl zg_779 (by decide) (Nat.le_of_ble_eq_true rfl) dX3_unwind_19 (fun v3 => ?_)
    refine aj_iload_n (1) dX3_unwind_22 rfl rfl ?_
    refine aj_icmp_lt (tgt := 56) dX3_unwind_23 (by decide) (fun h => ?_) (fun h => ?_)
    · exact aj_vret dX3_unwind_56 rfl rfl
    refine aj_aload_n (0) dX3_unwind_26 rfl rfl ?_
    refine aj_getR (TX := TX3) zc3 (by decide) rfl (Or.inl zg_285) dX3_unwind_27 (fun r4 => ?_)
    refine aj_getR (TX := TX10) zc10 (by decide) rfl (Or.inr ⟨_, zn_243⟩) dX3_unwind_30 (fun r5 => ?_)
    refine aj_aload_n (0) dX3_unwind_33 rfl rfl ?_
    refine aj_getR (TX := TX3) zc3 (by decide) rfl (Or.inl zg_292) dX3_unwind_34 (fun r6 => ?_)
    refine aj_iload_n (2) dX3_unwind_37 rfl rfl ?_
    refine rV_I (as := [.int (x2)]) (c_X5_get w S _ _ _) mv_X5_get rfl zg_778 (by decide) (Nat.le_of_ble_eq_true rfl) dX3_unwind_38 (fun v7 => ?_)
    refine aj_iconst (v := (0 : Int32)) dX3_unwind_41 (by decide) ?_
    refine rV_VM (as := [.int (v7), .int ((0 : Int32))]) (c_X1_add w S _ _ _ _) mv_X1_add rfl zg_766 (by decide) (Nat.le_of_ble_eq_true rfl) dX3_unwind_42 (fun M8 => ?_)
    refine aj_aload_n (0) dX3_unwind_45 rfl rfl ?_
    refine aj_iload_n (2) dX3_unwind_46 rfl rfl ?_
    refine r_putI (TX := TX3) zc3 (by decide) rfl rfl rfl rfl (Or.inl zg_293) dX3_unwind_47 (fun M9 => ?_)
    refine aj_iinc (j := 2) (v := (x2 + (-1 : Int32))) (ls2 := [(2, .int ((x2 + (-1 : Int32)))), (0, .ref (p0)), (1, .int (x1))]) dX3_unwind_50 rfl rfl (Nat.le_of_ble_eq_true rfl) rfl ?_
    refine aj_goto (tgt := 7) dX3_unwind_53 (by decide) ?_
    refine AJ.sub [1, 2, 0] rfl ?_
    exact ih (p0) (x1) ((x2 + (-1 : Int32))) M9
def gX3_unwind (S : List (Nat × Nat)) (p0 : Nat) (x1 : Int32) (M : zM) : Option zM := zgI S M (p0) 3 10 7 (fun v1 => gX3_unwind_7 S zfu (p0) (x1) ((v1 - (1 : Int32))) M)
set_option maxHeartbeats 4000000 in
set_option maxRecDepth 100000 in
theorem c_X3_unwind (w : zWd) (S : List (Nat × Nat)) (p0 : Nat) (x1 : Int32) (M : zM) : CT (zfVM S) w 3 mX3_unwind [.ref (p0), .int (x1)] (S, M) (gX3_unwind S p0 x1 M) := by
  refine CT.of (by decide) (Nat.le_of_ble_eq_true rfl) ?_
  show AJ _ _ _ _ 0 [(0, .ref (p0)), (1, .int (x1))] [] _ _
  unfold gX3_unwind
  refine aj_aload_n (0) dX3_unwind_0 rfl rfl ?_
  refine r_getI (TX := TX3) zc3 (by decide) rfl (Or.inl zg_293) dX3_unwind_1 (fun v1 => ?_)
  refine aj_iconst (v := (1 : Int32)) dX3_unwind_4 (by decide) ?_
  refine aj_isub dX3_unwind_5 ?_
  refine aj_istore_n (ls2 := [(2, .int ((v1 - (1 : Int32)))), (0, .ref (p0)), (1, .int (x1))]) dX3_unwind_6 rfl (Nat.le_of_ble_eq_true rfl) rfl ?_
  refine AJ.sub [1, 2, 0] rfl ?_
  exact t_X3_unwind_7 w S zfu (p0) (x1) ((v1 - (1 : Int32))) M
def gX3_endsPart_142 (S : List (Nat × Nat)) (p0 : Nat) (M : zM) : Option (Int32 × zM) := zrc S (p0) 3 10 (zb2 (gX3_counts S (p0) M) (fun v1 M2 => (if v1 = 0 then some ((0 : Int32), M2) else zgR S M2 (p0) 3 10 0 (fun r3 => zgI S M2 (r3) 9 7 6 (fun v4 => zrc S (p0) 3 10 (zb2 (gX3_hold S (p0) (v4) M2) (fun v5 M6 => (if v5 = 0 then some ((0 : Int32), M6) else some ((1 : Int32), M6)))))))))
set_option maxHeartbeats 4000000 in
set_option maxRecDepth 100000 in
theorem t_X3_endsPart_142 (w : zWd) (S : List (Nat × Nat)) (p0 : Nat) (M : zM) : AJ (zfIM S) w 4 mX3_endsPart 142 [(0, .ref (p0))] [] (S, M) (gX3_endsPart_142 S p0 M) := by
  unfold gX3_endsPart_142
  refine aj_aload_n (0) dX3_endsPart_142 rfl rfl ?_
  refine rV_IM (as := []) (c_X3_counts w S _ _) mv_X3_counts rfl zg_758 (by decide) (Nat.le_of_ble_eq_true rfl) dX3_endsPart_143 (fun v1 M2 => ?_)
  refine aj_if_eq (tgt := 167) dX3_endsPart_146 (by decide) (fun h => ?_) (fun h => ?_)
  · refine aj_iconst (v := (0 : Int32)) dX3_endsPart_167 (by decide) ?_
    exact aj_iret dX3_endsPart_168 rfl (by decide +kernel) rfl
  refine aj_aload_n (0) dX3_endsPart_149 rfl rfl ?_
  refine aj_aload_n (0) dX3_endsPart_150 rfl rfl ?_
  refine aj_getR (TX := TX3) zc3 (by decide) rfl (Or.inl zg_284) dX3_endsPart_151 (fun r3 => ?_)
  refine r_getI (TX := TX9) zc9 (by decide) rfl (Or.inr ⟨_, zn_122⟩) dX3_endsPart_154 (fun v4 => ?_)
  refine rV_IM (as := [.int (v4)]) (c_X3_hold w S _ _ _) mv_X3_hold rfl zg_770 (by decide) (Nat.le_of_ble_eq_true rfl) dX3_endsPart_157 (fun v5 M6 => ?_)
  refine aj_if_eq (tgt := 167) dX3_endsPart_160 (by decide) (fun h => ?_) (fun h => ?_)
  · refine aj_iconst (v := (0 : Int32)) dX3_endsPart_167 (by decide) ?_
    exact aj_iret dX3_endsPart_168 rfl (by decide +kernel) rfl
  refine aj_iconst (v := (1 : Int32)) dX3_endsPart_163 (by decide) ?_
  refine aj_goto (tgt := 168) dX3_endsPart_164 (by decide) ?_
  exact aj_iret dX3_endsPart_168 rfl (by decide +kernel) rfl
def gX3_endsPart_105 (S : List (Nat × Nat)) (p0 : Nat) (x1 : Int32) (x0s : Int32) (M : zM) : Option (Int32 × zM) := (if x0s = 0 then zrc S (p0) 3 10 ((gX3_unwind S (p0) (x1) M).bind (fun M1 => (if x0s = 0 then gX3_endsPart_142 S (p0) M1 else zrc S (p0) 3 10 ((gX3_topWaiting S (p0) M1).bind (fun v2 => (gX3_rank S (v2) M1).bind (fun v3 => (if v3 = x1 then zrc S (p0) 3 10 (zb2 (gX3_fails S (p0) ((1 : Int32)) M1) (fun v4 M5 => zbo (v4) (some (v4, M5)))) else gX3_endsPart_142 S (p0) M1))))))) else zrc S (p0) 3 10 ((gX3_unwind S (p0) ((x1 + (1 : Int32))) M).bind (fun M6 => (if x0s = 0 then gX3_endsPart_142 S (p0) M6 else zrc S (p0) 3 10 ((gX3_topWaiting S (p0) M6).bind (fun v7 => (gX3_rank S (v7) M6).bind (fun v8 => (if v8 = x1 then zrc S (p0) 3 10 (zb2 (gX3_fails S (p0) ((1 : Int32)) M6) (fun v9 M10 => zbo (v9) (some (v9, M10)))) else gX3_endsPart_142 S (p0) M6))))))))
set_option maxHeartbeats 4000000 in
set_option maxRecDepth 100000 in
theorem t_X3_endsPart_105 (w : zWd) (S : List (Nat × Nat)) (p0 : Nat) (x1 : Int32) (x0s : Int32) (M : zM) : AJ (zfIM S) w 4 mX3_endsPart 105 [(0, .ref (p0)), (1, .int (x1))] [.int (x0s)] (S, M) (gX3_endsPart_105 S p0 x1 x0s M) := by
  unfold gX3_endsPart_105
  refine aj_istore_n (ls2 := [(2, .int (x0s)), (0, .ref (p0)), (1, .int (x1))]) dX3_endsPart_105 rfl (Nat.le_of_ble_eq_true rfl) rfl ?_
  refine aj_aload_n (1) dX3_endsPart_106 rfl rfl ?_
  refine aj_iload_n (0) dX3_endsPart_107 rfl rfl ?_
  refine aj_if_eq (tgt := 117) dX3_endsPart_108 (by decide) (fun h => ?_) (fun h => ?_)
  · refine aj_iload_n (2) dX3_endsPart_117 rfl rfl ?_
    refine rV_VM (as := [.int (x1)]) (c_X3_unwind w S _ _ _) mv_X3_unwind rfl zg_786 (by decide) (Nat.le_of_ble_eq_true rfl) dX3_endsPart_118 (fun M1 => ?_)
    refine aj_iload_n (0) dX3_endsPart_121 rfl rfl ?_
    refine aj_if_eq (tgt := 142) dX3_endsPart_122 (by decide) (fun h => ?_) (fun h => ?_)
    · refine AJ.sub [1] rfl ?_
      exact t_X3_endsPart_142 w S (p0) M1
    refine aj_aload_n (1) dX3_endsPart_125 rfl rfl ?_
    refine rV_I (as := []) (c_X3_topWaiting w S _ _) mv_X3_topWaiting rfl zg_774 (by decide) (Nat.le_of_ble_eq_true rfl) dX3_endsPart_126 (fun v2 => ?_)
    refine rS_I (as := [.int (v2)]) (c_X3_rank w S _ _) ms_X3_rank rfl zg_779 (by decide) (Nat.le_of_ble_eq_true rfl) dX3_endsPart_129 (fun v3 => ?_)
    refine aj_iload_n (2) dX3_endsPart_132 rfl rfl ?_
    refine aj_icmp_ne (tgt := 142) dX3_endsPart_133 (by decide) (fun h => ?_) (fun h => ?_)
    · refine AJ.sub [1] rfl ?_
      exact t_X3_endsPart_142 w S (p0) M1
    refine aj_aload_n (1) dX3_endsPart_136 rfl rfl ?_
    refine aj_iconst (v := (1 : Int32)) dX3_endsPart_137 (by decide) ?_
    refine rV_IM (as := [.int ((1 : Int32))]) (c_X3_fails w S _ _ _) mv_X3_fails rfl zg_673 (by decide) (Nat.le_of_ble_eq_true rfl) dX3_endsPart_138 (fun v4 M5 => ?_)
    refine r_bo (fun hn => ?_)
    exact aj_iret dX3_endsPart_141 rfl hn rfl
  refine aj_iload_n (2) dX3_endsPart_111 rfl rfl ?_
  refine aj_iconst (v := (1 : Int32)) dX3_endsPart_112 (by decide) ?_
  refine aj_iadd dX3_endsPart_113 ?_
  refine aj_goto (tgt := 118) dX3_endsPart_114 (by decide) ?_
  refine rV_VM (as := [.int ((x1 + (1 : Int32)))]) (c_X3_unwind w S _ _ _) mv_X3_unwind rfl zg_786 (by decide) (Nat.le_of_ble_eq_true rfl) dX3_endsPart_118 (fun M6 => ?_)
  refine aj_iload_n (0) dX3_endsPart_121 rfl rfl ?_
  refine aj_if_eq (tgt := 142) dX3_endsPart_122 (by decide) (fun h => ?_) (fun h => ?_)
  · refine AJ.sub [1] rfl ?_
    exact t_X3_endsPart_142 w S (p0) M6
  refine aj_aload_n (1) dX3_endsPart_125 rfl rfl ?_
  refine rV_I (as := []) (c_X3_topWaiting w S _ _) mv_X3_topWaiting rfl zg_774 (by decide) (Nat.le_of_ble_eq_true rfl) dX3_endsPart_126 (fun v7 => ?_)
  refine rS_I (as := [.int (v7)]) (c_X3_rank w S _ _) ms_X3_rank rfl zg_779 (by decide) (Nat.le_of_ble_eq_true rfl) dX3_endsPart_129 (fun v8 => ?_)
  refine aj_iload_n (2) dX3_endsPart_132 rfl rfl ?_
  refine aj_icmp_ne (tgt := 142) dX3_endsPart_133 (by decide) (fun h => ?_) (fun h => ?_)
  · refine AJ.sub [1] rfl ?_
    exact t_X3_endsPart_142 w S (p0) M6
  refine aj_aload_n (1) dX3_endsPart_136 rfl rfl ?_
  refine aj_iconst (v := (1 : Int32)) dX3_endsPart_137 (by decide) ?_
  refine rV_IM (as := [.int ((1 : Int32))]) (c_X3_fails w S _ _ _) mv_X3_fails rfl zg_673 (by decide) (Nat.le_of_ble_eq_true rfl) dX3_endsPart_138 (fun v9 M10 => ?_)
  refine r_bo (fun hn => ?_)
  exact aj_iret dX3_endsPart_141 rfl hn rfl
def gX3_endsPart_51 (S : List (Nat × Nat)) (p0 : Nat) (M : zM) : Option (Int32 × zM) := zgR S M (p0) 3 10 0 (fun r1 => zgI S M (r1) 9 7 5 (fun v2 => (if v2 = (8 : Int32) then zgR S M (p0) 3 10 0 (fun r5 => zgI S M (r5) 9 7 6 (fun v6 => (if v6 = (5 : Int32) then zrc S (p0) 3 10 (zb2 (gX3_fails S (p0) ((1 : Int32)) M) (fun v11 M12 => zbo (v11) (some (v11, M12)))) else zgR S M (p0) 3 10 0 (fun r7 => zgI S M (r7) 9 7 6 (fun v8 => (gX3_rank S (v8) M).bind (fun v9 => (gX3_rank S ((8 : Int32)) M).bind (fun v10 => (if v9 = v10 then gX3_endsPart_105 S (p0) (v9) ((1 : Int32)) M else gX3_endsPart_105 S (p0) (v9) ((0 : Int32)) M)))))))) else zrc S (p0) 3 10 (zb2 (gX3_fails S (p0) ((1 : Int32)) M) (fun v3 M4 => zbo (v3) (some (v3, M4)))))))
set_option maxHeartbeats 4000000 in
set_option maxRecDepth 100000 in
theorem t_X3_endsPart_51 (w : zWd) (S : List (Nat × Nat)) (p0 : Nat) (M : zM) : AJ (zfIM S) w 4 mX3_endsPart 51 [(0, .ref (p0))] [] (S, M) (gX3_endsPart_51 S p0 M) := by
  unfold gX3_endsPart_51
  refine aj_aload_n (0) dX3_endsPart_51 rfl rfl ?_
  refine aj_getR (TX := TX3) zc3 (by decide) rfl (Or.inl zg_284) dX3_endsPart_52 (fun r1 => ?_)
  refine r_getI (TX := TX9) zc9 (by decide) rfl (Or.inr ⟨_, zn_120⟩) dX3_endsPart_55 (fun v2 => ?_)
  refine aj_bipush (v := (8 : Int32)) dX3_endsPart_58 (by decide) ?_
  refine aj_icmp_ne (tgt := 74) dX3_endsPart_60 (by decide) (fun h => ?_) (fun h => ?_)
  · refine aj_aload_n (0) dX3_endsPart_74 rfl rfl ?_
    refine aj_iconst (v := (1 : Int32)) dX3_endsPart_75 (by decide) ?_
    refine rV_IM (as := [.int ((1 : Int32))]) (c_X3_fails w S _ _ _) mv_X3_fails rfl zg_673 (by decide) (Nat.le_of_ble_eq_true rfl) dX3_endsPart_76 (fun v3 M4 => ?_)
    refine r_bo (fun hn => ?_)
    exact aj_iret dX3_endsPart_79 rfl hn rfl
  refine aj_aload_n (0) dX3_endsPart_63 rfl rfl ?_
  refine aj_getR (TX := TX3) zc3 (by decide) rfl (Or.inl zg_284) dX3_endsPart_64 (fun r5 => ?_)
  refine r_getI (TX := TX9) zc9 (by decide) rfl (Or.inr ⟨_, zn_122⟩) dX3_endsPart_67 (fun v6 => ?_)
  refine aj_iconst (v := (5 : Int32)) dX3_endsPart_70 (by decide) ?_
  refine aj_icmp_ne (tgt := 80) dX3_endsPart_71 (by decide) (fun h => ?_) (fun h => ?_)
  · refine aj_aload_n (0) dX3_endsPart_80 rfl rfl ?_
    refine aj_getR (TX := TX3) zc3 (by decide) rfl (Or.inl zg_284) dX3_endsPart_81 (fun r7 => ?_)
    refine r_getI (TX := TX9) zc9 (by decide) rfl (Or.inr ⟨_, zn_122⟩) dX3_endsPart_84 (fun v8 => ?_)
    refine rS_I (as := [.int (v8)]) (c_X3_rank w S _ _) ms_X3_rank rfl zg_779 (by decide) (Nat.le_of_ble_eq_true rfl) dX3_endsPart_87 (fun v9 => ?_)
    refine aj_istore_n (ls2 := [(1, .int (v9)), (0, .ref (p0))]) dX3_endsPart_90 rfl (Nat.le_of_ble_eq_true rfl) rfl ?_
    refine aj_iload_n (0) dX3_endsPart_91 rfl rfl ?_
    refine aj_bipush (v := (8 : Int32)) dX3_endsPart_92 (by decide) ?_
    refine rS_I (as := [.int ((8 : Int32))]) (c_X3_rank w S _ _) ms_X3_rank rfl zg_779 (by decide) (Nat.le_of_ble_eq_true rfl) dX3_endsPart_94 (fun v10 => ?_)
    refine aj_icmp_ne (tgt := 104) dX3_endsPart_97 (by decide) (fun h => ?_) (fun h => ?_)
    · refine aj_iconst (v := (0 : Int32)) dX3_endsPart_104 (by decide) ?_
      refine AJ.sub [1, 0] rfl ?_
      exact t_X3_endsPart_105 w S (p0) (v9) ((0 : Int32)) M
    refine aj_iconst (v := (1 : Int32)) dX3_endsPart_100 (by decide) ?_
    refine aj_goto (tgt := 105) dX3_endsPart_101 (by decide) ?_
    refine AJ.sub [1, 0] rfl ?_
    exact t_X3_endsPart_105 w S (p0) (v9) ((1 : Int32)) M
  refine aj_aload_n (0) dX3_endsPart_74 rfl rfl ?_
  refine aj_iconst (v := (1 : Int32)) dX3_endsPart_75 (by decide) ?_
  refine rV_IM (as := [.int ((1 : Int32))]) (c_X3_fails w S _ _ _) mv_X3_fails rfl zg_673 (by decide) (Nat.le_of_ble_eq_true rfl) dX3_endsPart_76 (fun v11 M12 => ?_)
  refine r_bo (fun hn => ?_)
  exact aj_iret dX3_endsPart_79 rfl hn rfl
def gX3_endsPart (S : List (Nat × Nat)) (p0 : Nat) (M : zM) : Option (Int32 × zM) := zgR S M (p0) 3 10 0 (fun r1 => zgI S M (r1) 9 7 5 (fun v2 => (if v2 = (7 : Int32) then zgI S M (p0) 3 10 8 (fun v3 => (if v3 ≤ 0 then gX3_endsPart_51 S (p0) M else (gX3_rank S ((2 : Int32)) M).bind (fun v4 => zrc S (p0) 3 10 ((gX3_unwind S (p0) ((v4 + (1 : Int32))) M).bind (fun M5 => zgI S M5 (p0) 3 10 7 (fun v6 => zpI S M5 (p0) 3 10 7 ((v6 - (1 : Int32))) (fun M7 => zgI S M7 (p0) 3 10 8 (fun v8 => zpI S M7 (p0) 3 10 8 ((v8 - (1 : Int32))) (fun M9 => some ((1 : Int32), M9)))))))))) else gX3_endsPart_51 S (p0) M)))
set_option maxHeartbeats 4000000 in
set_option maxRecDepth 100000 in
theorem c_X3_endsPart (w : zWd) (S : List (Nat × Nat)) (p0 : Nat) (M : zM) : CT (zfIM S) w 4 mX3_endsPart [.ref (p0)] (S, M) (gX3_endsPart S p0 M) := by
  refine CT.of (by decide) (Nat.le_of_ble_eq_true rfl) ?_
  show AJ _ _ _ _ 0 [(0, .ref (p0))] [] _ _
  unfold gX3_endsPart
  refine aj_aload_n (0) dX3_endsPart_0 rfl rfl ?_
  refine aj_getR (TX := TX3) zc3 (by decide) rfl (Or.inl zg_284) dX3_endsPart_1 (fun r1 => ?_)
  refine r_getI (TX := TX9) zc9 (by decide) rfl (Or.inr ⟨_, zn_120⟩) dX3_endsPart_4 (fun v2 => ?_)
  refine aj_bipush (v := (7 : Int32)) dX3_endsPart_7 (by decide) ?_
  refine aj_icmp_ne (tgt := 51) dX3_endsPart_9 (by decide) (fun h => ?_) (fun h => ?_)
  · refine AJ.sub [0] rfl ?_
    exact t_X3_endsPart_51 w S (p0) M
  refine aj_aload_n (0) dX3_endsPart_12 rfl rfl ?_
  refine r_getI (TX := TX3) zc3 (by decide) rfl (Or.inl zg_294) dX3_endsPart_13 (fun v3 => ?_)
  refine aj_if_le (tgt := 51) dX3_endsPart_16 (by decide) (fun h => ?_) (fun h => ?_)
  · refine AJ.sub [0] rfl ?_
    exact t_X3_endsPart_51 w S (p0) M
  refine aj_aload_n (0) dX3_endsPart_19 rfl rfl ?_
  refine aj_iconst (v := (2 : Int32)) dX3_endsPart_20 (by decide) ?_
  refine rS_I (as := [.int ((2 : Int32))]) (c_X3_rank w S _ _) ms_X3_rank rfl zg_779 (by decide) (Nat.le_of_ble_eq_true rfl) dX3_endsPart_21 (fun v4 => ?_)
  refine aj_iconst (v := (1 : Int32)) dX3_endsPart_24 (by decide) ?_
  refine aj_iadd dX3_endsPart_25 ?_
  refine rV_VM (as := [.int ((v4 + (1 : Int32)))]) (c_X3_unwind w S _ _ _) mv_X3_unwind rfl zg_786 (by decide) (Nat.le_of_ble_eq_true rfl) dX3_endsPart_26 (fun M5 => ?_)
  refine aj_aload_n (0) dX3_endsPart_29 rfl rfl ?_
  refine aj_dup dX3_endsPart_30 rfl ?_
  refine r_getI (TX := TX3) zc3 (by decide) rfl (Or.inl zg_293) dX3_endsPart_31 (fun v6 => ?_)
  refine aj_iconst (v := (1 : Int32)) dX3_endsPart_34 (by decide) ?_
  refine aj_isub dX3_endsPart_35 ?_
  refine r_putI (TX := TX3) zc3 (by decide) rfl rfl rfl rfl (Or.inl zg_293) dX3_endsPart_36 (fun M7 => ?_)
  refine aj_aload_n (0) dX3_endsPart_39 rfl rfl ?_
  refine aj_dup dX3_endsPart_40 rfl ?_
  refine r_getI (TX := TX3) zc3 (by decide) rfl (Or.inl zg_294) dX3_endsPart_41 (fun v8 => ?_)
  refine aj_iconst (v := (1 : Int32)) dX3_endsPart_44 (by decide) ?_
  refine aj_isub dX3_endsPart_45 ?_
  refine r_putI (TX := TX3) zc3 (by decide) rfl rfl rfl rfl (Or.inl zg_294) dX3_endsPart_46 (fun M9 => ?_)
  refine aj_iconst (v := (1 : Int32)) dX3_endsPart_49 (by decide) ?_
  exact aj_iret dX3_endsPart_50 rfl (by decide +kernel) rfl
def gX3_laws_210 (S : List (Nat × Nat)) (k89 : Nat → Int32 → Int32 → Int32 → zM → Option (Int32 × zM)) (p0 : Nat) (x1 : Int32) (x2 : Int32) (x3 : Int32) (x4 : Int32) (x5 : Int32) (M : zM) : Option (Int32 × zM) := (if x2 = 0 then k89 (p0) (x1) (x5) ((x3 + (1 : Int32))) M else (if x4 = 0 then k89 (p0) (x1) ((1 : Int32)) ((x3 + (1 : Int32))) M else k89 (p0) (x1) ((0 : Int32)) ((x3 + (1 : Int32))) M))
set_option maxHeartbeats 4000000 in
set_option maxRecDepth 100000 in
theorem t_X3_laws_210 (w : zWd) (S : List (Nat × Nat)) (k89 : Nat → Int32 → Int32 → Int32 → zM → Option (Int32 × zM)) (hk89 : ∀ (p0 : Nat) (x1 : Int32) (x2 : Int32) (x3 : Int32) (M : zM), AJ (zfIM S) w 5 mX3_laws 89 [(0, .ref (p0)), (1, .int (x1)), (2, .int (x2)), (3, .int (x3))] [] (S, M) (k89 p0 x1 x2 x3 M)) (p0 : Nat) (x1 : Int32) (x2 : Int32) (x3 : Int32) (x4 : Int32) (x5 : Int32) (M : zM) : AJ (zfIM S) w 5 mX3_laws 210 [(0, .ref (p0)), (1, .int (x1)), (2, .int (x2)), (3, .int (x3)), (4, .int (x4)), (5, .int (x5))] [] (S, M) (gX3_laws_210 S k89 p0 x1 x2 x3 x4 x5 M) := by
  unfold gX3_laws_210
  refine aj_iload_n (2) dX3_laws_210 rfl rfl ?_
  refine aj_if_eq (tgt := 227) dX3_laws_211 (by decide) (fun h => ?_) (fun h => ?_)
  · refine aj_iload (5) dX3_laws_227 rfl ?_
    refine aj_istore_n (ls2 := [(2, .int (x5)), (0, .ref (p0)), (1, .int (x1)), (3, .int (x3)), (4, .int (x4)), (5, .int (x5))]) dX3_laws_229 rfl (Nat.le_of_ble_eq_true rfl) rfl ?_
    refine aj_iinc (j := 3) (v := (x3 + (1 : Int32))) (ls2 := [(3, .int ((x3 + (1 : Int32)))), (2, .int (x5)), (0, .ref (p0)), (1, .int (x1)), (4, .int (x4)), (5, .int (x5))]) dX3_laws_230 rfl rfl (Nat.le_of_ble_eq_true rfl) rfl ?_
    refine aj_goto (tgt := 89) dX3_laws_233 (by decide) ?_
    refine AJ.sub [2, 3, 1, 0] rfl ?_
    exact hk89 (p0) (x1) (x5) ((x3 + (1 : Int32))) M
  refine aj_iload (4) dX3_laws_214 rfl ?_
  refine aj_if_ne (tgt := 223) dX3_laws_216 (by decide) (fun h => ?_) (fun h => ?_)
  · refine aj_iconst (v := (0 : Int32)) dX3_laws_223 (by decide) ?_
    refine aj_goto (tgt := 229) dX3_laws_224 (by decide) ?_
    refine aj_istore_n (ls2 := [(2, .int ((0 : Int32))), (0, .ref (p0)), (1, .int (x1)), (3, .int (x3)), (4, .int (x4)), (5, .int (x5))]) dX3_laws_229 rfl (Nat.le_of_ble_eq_true rfl) rfl ?_
    refine aj_iinc (j := 3) (v := (x3 + (1 : Int32))) (ls2 := [(3, .int ((x3 + (1 : Int32)))), (2, .int ((0 : Int32))), (0, .ref (p0)), (1, .int (x1)), (4, .int (x4)), (5, .int (x5))]) dX3_laws_230 rfl rfl (Nat.le_of_ble_eq_true rfl) rfl ?_
    refine aj_goto (tgt := 89) dX3_laws_233 (by decide) ?_
    refine AJ.sub [2, 3, 1, 0] rfl ?_
    exact hk89 (p0) (x1) ((0 : Int32)) ((x3 + (1 : Int32))) M
  refine aj_iconst (v := (1 : Int32)) dX3_laws_219 (by decide) ?_
  refine aj_goto (tgt := 229) dX3_laws_220 (by decide) ?_
  refine aj_istore_n (ls2 := [(2, .int ((1 : Int32))), (0, .ref (p0)), (1, .int (x1)), (3, .int (x3)), (4, .int (x4)), (5, .int (x5))]) dX3_laws_229 rfl (Nat.le_of_ble_eq_true rfl) rfl ?_
  refine aj_iinc (j := 3) (v := (x3 + (1 : Int32))) (ls2 := [(3, .int ((x3 + (1 : Int32)))), (2, .int ((1 : Int32))), (0, .ref (p0)), (1, .int (x1)), (4, .int (x4)), (5, .int (x5))]) dX3_laws_230 rfl rfl (Nat.le_of_ble_eq_true rfl) rfl ?_
  refine aj_goto (tgt := 89) dX3_laws_233 (by decide) ?_
  refine AJ.sub [2, 3, 1, 0] rfl ?_
  exact hk89 (p0) (x1) ((1 : Int32)) ((x3 + (1 : Int32))) M
def gX3_laws_185 (S : List (Nat × Nat)) (k89 : Nat → Int32 → Int32 → Int32 → zM → Option (Int32 × zM)) (p0 : Nat) (x1 : Int32) (x2 : Int32) (x3 : Int32) (x4 : Int32) (x0s : Int32) (M : zM) : Option (Int32 × zM) := (if x2 = 0 then zrc S (p0) 3 10 (zb2 (gX3_endsPart S (p0) M) (fun v1 M2 => (if v1 = 0 then some ((0 : Int32), M2) else gX3_laws_210 S k89 (p0) (x1) (x2) (x3) (x4) (x0s) M2))) else zrc S (p0) 3 10 (zb2 (gX3_beginsPart S (p0) M) (fun v3 M4 => (if v3 = 0 then some ((0 : Int32), M4) else gX3_laws_210 S k89 (p0) (x1) (x2) (x3) (x4) (x0s) M4))))
set_option maxHeartbeats 4000000 in
set_option maxRecDepth 100000 in
theorem t_X3_laws_185 (w : zWd) (S : List (Nat × Nat)) (k89 : Nat → Int32 → Int32 → Int32 → zM → Option (Int32 × zM)) (hk89 : ∀ (p0 : Nat) (x1 : Int32) (x2 : Int32) (x3 : Int32) (M : zM), AJ (zfIM S) w 5 mX3_laws 89 [(0, .ref (p0)), (1, .int (x1)), (2, .int (x2)), (3, .int (x3))] [] (S, M) (k89 p0 x1 x2 x3 M)) (p0 : Nat) (x1 : Int32) (x2 : Int32) (x3 : Int32) (x4 : Int32) (x0s : Int32) (M : zM) : AJ (zfIM S) w 5 mX3_laws 185 [(0, .ref (p0)), (1, .int (x1)), (2, .int (x2)), (3, .int (x3)), (4, .int (x4))] [.int (x0s)] (S, M) (gX3_laws_185 S k89 p0 x1 x2 x3 x4 x0s M) := by
  unfold gX3_laws_185
  refine aj_istore (ls2 := [(5, .int (x0s)), (0, .ref (p0)), (1, .int (x1)), (2, .int (x2)), (3, .int (x3)), (4, .int (x4))]) dX3_laws_185 (Nat.le_of_ble_eq_true rfl) rfl ?_
  refine aj_iload_n (3) dX3_laws_187 rfl rfl ?_
  refine aj_if_eq (tgt := 201) dX3_laws_188 (by decide) (fun h => ?_) (fun h => ?_)
  · refine aj_aload_n (1) dX3_laws_201 rfl rfl ?_
    refine rV_IM (as := []) (c_X3_endsPart w S _ _) mv_X3_endsPart rfl zg_782 (by decide) (Nat.le_of_ble_eq_true rfl) dX3_laws_202 (fun v1 M2 => ?_)
    refine aj_if_ne (tgt := 210) dX3_laws_205 (by decide) (fun h => ?_) (fun h => ?_)
    · refine AJ.sub [1, 2, 3, 4, 5, 0] rfl ?_
      exact t_X3_laws_210 w S k89 hk89 (p0) (x1) (x2) (x3) (x4) (x0s) M2
    refine aj_iconst (v := (0 : Int32)) dX3_laws_208 (by decide) ?_
    exact aj_iret dX3_laws_209 rfl (by decide +kernel) rfl
  refine aj_aload_n (1) dX3_laws_191 rfl rfl ?_
  refine rV_IM (as := []) (c_X3_beginsPart w S _ _) mv_X3_beginsPart rfl zg_754 (by decide) (Nat.le_of_ble_eq_true rfl) dX3_laws_192 (fun v3 M4 => ?_)
  refine aj_if_eq (tgt := 208) dX3_laws_195 (by decide) (fun h => ?_) (fun h => ?_)
  · refine aj_iconst (v := (0 : Int32)) dX3_laws_208 (by decide) ?_
    exact aj_iret dX3_laws_209 rfl (by decide +kernel) rfl
  refine aj_goto (tgt := 210) dX3_laws_198 (by decide) ?_
  refine AJ.sub [1, 2, 3, 4, 5, 0] rfl ?_
  exact t_X3_laws_210 w S k89 hk89 (p0) (x1) (x2) (x3) (x4) (x0s) M4
def gX3_laws_155 (S : List (Nat × Nat)) (k89 : Nat → Int32 → Int32 → Int32 → zM → Option (Int32 × zM)) (p0 : Nat) (x1 : Int32) (x2 : Int32) (x3 : Int32) (x0s : Int32) (M : zM) : Option (Int32 × zM) := zgR S M (p0) 3 10 0 (fun r1 => zgI S M (r1) 9 7 5 (fun v2 => (if v2 = (8 : Int32) then zgR S M (p0) 3 10 0 (fun r3 => zgI S M (r3) 9 7 6 (fun v4 => (if v4 = (5 : Int32) then gX3_laws_185 S k89 (p0) (x1) (x2) (x3) (x0s) ((0 : Int32)) M else gX3_laws_185 S k89 (p0) (x1) (x2) (x3) (x0s) ((1 : Int32)) M))) else gX3_laws_185 S k89 (p0) (x1) (x2) (x3) (x0s) ((0 : Int32)) M)))
set_option maxHeartbeats 4000000 in
set_option maxRecDepth 100000 in
theorem t_X3_laws_155 (w : zWd) (S : List (Nat × Nat)) (k89 : Nat → Int32 → Int32 → Int32 → zM → Option (Int32 × zM)) (hk89 : ∀ (p0 : Nat) (x1 : Int32) (x2 : Int32) (x3 : Int32) (M : zM), AJ (zfIM S) w 5 mX3_laws 89 [(0, .ref (p0)), (1, .int (x1)), (2, .int (x2)), (3, .int (x3))] [] (S, M) (k89 p0 x1 x2 x3 M)) (p0 : Nat) (x1 : Int32) (x2 : Int32) (x3 : Int32) (x0s : Int32) (M : zM) : AJ (zfIM S) w 5 mX3_laws 155 [(0, .ref (p0)), (1, .int (x1)), (2, .int (x2)), (3, .int (x3))] [.int (x0s)] (S, M) (gX3_laws_155 S k89 p0 x1 x2 x3 x0s M) := by
  unfold gX3_laws_155
  refine aj_istore (ls2 := [(4, .int (x0s)), (0, .ref (p0)), (1, .int (x1)), (2, .int (x2)), (3, .int (x3))]) dX3_laws_155 (Nat.le_of_ble_eq_true rfl) rfl ?_
  refine aj_aload_n (1) dX3_laws_157 rfl rfl ?_
  refine aj_getR (TX := TX3) zc3 (by decide) rfl (Or.inl zg_284) dX3_laws_158 (fun r1 => ?_)
  refine r_getI (TX := TX9) zc9 (by decide) rfl (Or.inr ⟨_, zn_120⟩) dX3_laws_161 (fun v2 => ?_)
  refine aj_bipush (v := (8 : Int32)) dX3_laws_164 (by decide) ?_
  refine aj_icmp_ne (tgt := 184) dX3_laws_166 (by decide) (fun h => ?_) (fun h => ?_)
  · refine aj_iconst (v := (0 : Int32)) dX3_laws_184 (by decide) ?_
    refine AJ.sub [1, 2, 3, 4, 0] rfl ?_
    exact t_X3_laws_185 w S k89 hk89 (p0) (x1) (x2) (x3) (x0s) ((0 : Int32)) M
  refine aj_aload_n (1) dX3_laws_169 rfl rfl ?_
  refine aj_getR (TX := TX3) zc3 (by decide) rfl (Or.inl zg_284) dX3_laws_170 (fun r3 => ?_)
  refine r_getI (TX := TX9) zc9 (by decide) rfl (Or.inr ⟨_, zn_122⟩) dX3_laws_173 (fun v4 => ?_)
  refine aj_iconst (v := (5 : Int32)) dX3_laws_176 (by decide) ?_
  refine aj_icmp_eq (tgt := 184) dX3_laws_177 (by decide) (fun h => ?_) (fun h => ?_)
  · refine aj_iconst (v := (0 : Int32)) dX3_laws_184 (by decide) ?_
    refine AJ.sub [1, 2, 3, 4, 0] rfl ?_
    exact t_X3_laws_185 w S k89 hk89 (p0) (x1) (x2) (x3) (x0s) ((0 : Int32)) M
  refine aj_iconst (v := (1 : Int32)) dX3_laws_180 (by decide) ?_
  refine aj_goto (tgt := 185) dX3_laws_181 (by decide) ?_
  refine AJ.sub [1, 2, 3, 4, 0] rfl ?_
  exact t_X3_laws_185 w S k89 hk89 (p0) (x1) (x2) (x3) (x0s) ((1 : Int32)) M
def gX3_laws_128 (S : List (Nat × Nat)) (k89 : Nat → Int32 → Int32 → Int32 → zM → Option (Int32 × zM)) (p0 : Nat) (x1 : Int32) (x2 : Int32) (x3 : Int32) (M : zM) : Option (Int32 × zM) := zgR S M (p0) 3 10 0 (fun r1 => zgI S M (r1) 9 7 5 (fun v2 => (if v2 = (4 : Int32) then gX3_laws_155 S k89 (p0) (x1) (x2) (x3) ((1 : Int32)) M else zgR S M (p0) 3 10 0 (fun r3 => zgI S M (r3) 9 7 5 (fun v4 => (if v4 = (3 : Int32) then gX3_laws_155 S k89 (p0) (x1) (x2) (x3) ((1 : Int32)) M else gX3_laws_155 S k89 (p0) (x1) (x2) (x3) ((0 : Int32)) M))))))
set_option maxHeartbeats 4000000 in
set_option maxRecDepth 100000 in
theorem t_X3_laws_128 (w : zWd) (S : List (Nat × Nat)) (k89 : Nat → Int32 → Int32 → Int32 → zM → Option (Int32 × zM)) (hk89 : ∀ (p0 : Nat) (x1 : Int32) (x2 : Int32) (x3 : Int32) (M : zM), AJ (zfIM S) w 5 mX3_laws 89 [(0, .ref (p0)), (1, .int (x1)), (2, .int (x2)), (3, .int (x3))] [] (S, M) (k89 p0 x1 x2 x3 M)) (p0 : Nat) (x1 : Int32) (x2 : Int32) (x3 : Int32) (M : zM) : AJ (zfIM S) w 5 mX3_laws 128 [(0, .ref (p0)), (1, .int (x1)), (2, .int (x2)), (3, .int (x3))] [] (S, M) (gX3_laws_128 S k89 p0 x1 x2 x3 M) := by
  unfold gX3_laws_128
  refine aj_aload_n (0) dX3_laws_128 rfl rfl ?_
  refine aj_getR (TX := TX3) zc3 (by decide) rfl (Or.inl zg_284) dX3_laws_129 (fun r1 => ?_)
  refine r_getI (TX := TX9) zc9 (by decide) rfl (Or.inr ⟨_, zn_120⟩) dX3_laws_132 (fun v2 => ?_)
  refine aj_iconst (v := (4 : Int32)) dX3_laws_135 (by decide) ?_
  refine aj_icmp_eq (tgt := 150) dX3_laws_136 (by decide) (fun h => ?_) (fun h => ?_)
  · refine aj_iconst (v := (1 : Int32)) dX3_laws_150 (by decide) ?_
    refine aj_goto (tgt := 155) dX3_laws_151 (by decide) ?_
    refine AJ.sub [0, 1, 2, 3] rfl ?_
    exact t_X3_laws_155 w S k89 hk89 (p0) (x1) (x2) (x3) ((1 : Int32)) M
  refine aj_aload_n (0) dX3_laws_139 rfl rfl ?_
  refine aj_getR (TX := TX3) zc3 (by decide) rfl (Or.inl zg_284) dX3_laws_140 (fun r3 => ?_)
  refine r_getI (TX := TX9) zc9 (by decide) rfl (Or.inr ⟨_, zn_120⟩) dX3_laws_143 (fun v4 => ?_)
  refine aj_iconst (v := (3 : Int32)) dX3_laws_146 (by decide) ?_
  refine aj_icmp_ne (tgt := 154) dX3_laws_147 (by decide) (fun h => ?_) (fun h => ?_)
  · refine aj_iconst (v := (0 : Int32)) dX3_laws_154 (by decide) ?_
    refine AJ.sub [0, 1, 2, 3] rfl ?_
    exact t_X3_laws_155 w S k89 hk89 (p0) (x1) (x2) (x3) ((0 : Int32)) M
  refine aj_iconst (v := (1 : Int32)) dX3_laws_150 (by decide) ?_
  refine aj_goto (tgt := 155) dX3_laws_151 (by decide) ?_
  refine AJ.sub [0, 1, 2, 3] rfl ?_
  exact t_X3_laws_155 w S k89 hk89 (p0) (x1) (x2) (x3) ((1 : Int32)) M
def gX3_laws_89 (S : List (Nat × Nat)) : Nat → Nat → Int32 → Int32 → Int32 → zM → Option (Int32 × zM)
  | 0 => fun _ _ _ _ _ => none
  | n + 1 => fun p0 x1 x2 x3 M => (if (700 : Int32) ≤ x3 then zrc S (p0) 3 10 ((gX3_unwind S (p0) ((0 : Int32)) M).bind (fun M1 => zgR S M1 (p0) 3 10 1 (fun r2 => zgR S M1 (r2) 10 18 17 (fun r3 => zrc S (r3) 1 7 ((gX1_end S (r3) (x1) M1).bind (fun M4 => some ((1 : Int32), M4))))))) else zgR S M (p0) 3 10 0 (fun r5 => zrc S (r5) 9 7 ((gX9_next S (r5) M).bind (fun M6 => (if x2 = 0 then zgI S M6 (p0) 3 10 8 (fun v7 => (if v7 = 0 then zgR S M6 (p0) 3 10 0 (fun r8 => zgI S M6 (r8) 9 7 5 (fun v9 => (if v9 = (5 : Int32) then zrc S (p0) 3 10 ((gX3_unwind S (p0) ((0 : Int32)) M6).bind (fun M10 => zgR S M10 (p0) 3 10 1 (fun r11 => zgR S M10 (r11) 10 18 17 (fun r12 => zrc S (r12) 1 7 ((gX1_end S (r12) (x1) M10).bind (fun M13 => some ((1 : Int32), M13))))))) else gX3_laws_128 S (gX3_laws_89 S   n) (p0) (x1) (x2) (x3) M6))) else gX3_laws_128 S (gX3_laws_89 S   n) (p0) (x1) (x2) (x3) M6)) else gX3_laws_128 S (gX3_laws_89 S   n) (p0) (x1) (x2) (x3) M6)))))
set_option maxHeartbeats 4000000 in
set_option maxRecDepth 100000 in
theorem t_X3_laws_89 (w : zWd) (S : List (Nat × Nat)) (fu : Nat) : ∀ (p0 : Nat) (x1 : Int32) (x2 : Int32) (x3 : Int32) (M : zM), AJ (zfIM S) w 5 mX3_laws 89 [(0, .ref (p0)), (1, .int (x1)), (2, .int (x2)), (3, .int (x3))] [] (S, M) (gX3_laws_89 S fu p0 x1 x2 x3 M) := by
  induction fu with
  | zero => intro p0 x1 x2 x3 M; exact AJ.none
  | succ n ih =>
    intro p0 x1 x2 x3 M
    unfold gX3_laws_89
    refine aj_iload_n (3) dX3_laws_89 rfl rfl ?_
    refine aj_sipush (v := (700 : Int32)) dX3_laws_90 (by decide) ?_
    refine aj_icmp_ge (tgt := 236) dX3_laws_93 (by decide) (fun h => ?_) (fun h => ?_)
    · refine aj_aload_n (0) dX3_laws_236 rfl rfl ?_
      refine aj_iconst (v := (0 : Int32)) dX3_laws_237 (by decide) ?_
      refine rV_VM (as := [.int ((0 : Int32))]) (c_X3_unwind w S _ _ _) mv_X3_unwind rfl zg_786 (by decide) (Nat.le_of_ble_eq_true rfl) dX3_laws_238 (fun M1 => ?_)
      refine aj_aload_n (0) dX3_laws_241 rfl rfl ?_
      refine aj_getR (TX := TX3) zc3 (by decide) rfl (Or.inl zg_285) dX3_laws_242 (fun r2 => ?_)
      refine aj_getR (TX := TX10) zc10 (by decide) rfl (Or.inr ⟨_, zn_243⟩) dX3_laws_245 (fun r3 => ?_)
      refine aj_iload_n (1) dX3_laws_248 rfl rfl ?_
      refine rV_VM (as := [.int (x1)]) (c_X1_end w S _ _ _) mv_X1_end rfl zg_790 (by decide) (Nat.le_of_ble_eq_true rfl) dX3_laws_249 (fun M4 => ?_)
      refine aj_iconst (v := (1 : Int32)) dX3_laws_252 (by decide) ?_
      exact aj_iret dX3_laws_253 rfl (by decide +kernel) rfl
    refine aj_aload_n (0) dX3_laws_96 rfl rfl ?_
    refine aj_getR (TX := TX3) zc3 (by decide) rfl (Or.inl zg_284) dX3_laws_97 (fun r5 => ?_)
    refine rV_VM (as := []) (c_X9_next w S _ _) mv_X9_next rfl zg_681 (by decide) (Nat.le_of_ble_eq_true rfl) dX3_laws_100 (fun M6 => ?_)
    refine aj_iload_n (2) dX3_laws_103 rfl rfl ?_
    refine aj_if_ne (tgt := 128) dX3_laws_104 (by decide) (fun h => ?_) (fun h => ?_)
    · refine AJ.sub [0, 1, 2, 3] rfl ?_
      exact t_X3_laws_128 w S (gX3_laws_89 S   n) ih (p0) (x1) (x2) (x3) M6
    refine aj_aload_n (0) dX3_laws_107 rfl rfl ?_
    refine r_getI (TX := TX3) zc3 (by decide) rfl (Or.inl zg_294) dX3_laws_108 (fun v7 => ?_)
    refine aj_if_ne (tgt := 128) dX3_laws_111 (by decide) (fun h => ?_) (fun h => ?_)
    · refine AJ.sub [0, 1, 2, 3] rfl ?_
      exact t_X3_laws_128 w S (gX3_laws_89 S   n) ih (p0) (x1) (x2) (x3) M6
    refine aj_aload_n (0) dX3_laws_114 rfl rfl ?_
    refine aj_getR (TX := TX3) zc3 (by decide) rfl (Or.inl zg_284) dX3_laws_115 (fun r8 => ?_)
    refine r_getI (TX := TX9) zc9 (by decide) rfl (Or.inr ⟨_, zn_120⟩) dX3_laws_118 (fun v9 => ?_)
    refine aj_iconst (v := (5 : Int32)) dX3_laws_121 (by decide) ?_
    refine aj_icmp_ne (tgt := 128) dX3_laws_122 (by decide) (fun h => ?_) (fun h => ?_)
    · refine AJ.sub [0, 1, 2, 3] rfl ?_
      exact t_X3_laws_128 w S (gX3_laws_89 S   n) ih (p0) (x1) (x2) (x3) M6
    refine aj_goto (tgt := 236) dX3_laws_125 (by decide) ?_
    refine aj_aload_n (0) dX3_laws_236 rfl rfl ?_
    refine aj_iconst (v := (0 : Int32)) dX3_laws_237 (by decide) ?_
    refine rV_VM (as := [.int ((0 : Int32))]) (c_X3_unwind w S _ _ _) mv_X3_unwind rfl zg_786 (by decide) (Nat.le_of_ble_eq_true rfl) dX3_laws_238 (fun M10 => ?_)
    refine aj_aload_n (0) dX3_laws_241 rfl rfl ?_
    refine aj_getR (TX := TX3) zc3 (by decide) rfl (Or.inl zg_285) dX3_laws_242 (fun r11 => ?_)
    refine aj_getR (TX := TX10) zc10 (by decide) rfl (Or.inr ⟨_, zn_243⟩) dX3_laws_245 (fun r12 => ?_)
    refine aj_iload_n (1) dX3_laws_248 rfl rfl ?_
    refine rV_VM (as := [.int (x1)]) (c_X1_end w S _ _ _) mv_X1_end rfl zg_790 (by decide) (Nat.le_of_ble_eq_true rfl) dX3_laws_249 (fun M13 => ?_)
    refine aj_iconst (v := (1 : Int32)) dX3_laws_252 (by decide) ?_
    exact aj_iret dX3_laws_253 rfl (by decide +kernel) rfl
def gX3_laws (S : List (Nat × Nat)) (p0 : Nat) (M : zM) : Option (Int32 × zM) := zgR S M (p0) 3 10 0 (fun r1 => zrc S (r1) 9 7 ((gX9_next S (r1) M).bind (fun M2 => zgR S M2 (p0) 3 10 0 (fun r3 => zgI S M2 (r3) 9 7 6 (fun v4 => zgR S M2 (p0) 3 10 0 (fun r5 => zgI S M2 (r5) 9 7 5 (fun v6 => (if v6 = (3 : Int32) then (if (v4 - (7 : Int32)) < 0 then zrc S (p0) 3 10 (zb2 (gX3_fails S (p0) ((1 : Int32)) M2) (fun v9 M10 => zbo (v9) (some (v9, M10)))) else (if (v4 - (7 : Int32)) < (3 : Int32) then zgR S M2 (p0) 3 10 1 (fun r11 => zgR S M2 (r11) 10 18 17 (fun r12 => zrc S (r12) 1 7 ((gX1_has S (r12) ((v4 - (7 : Int32))) M2).bind (fun v13 => (if v13 = 0 then zgR S M2 (p0) 3 10 1 (fun r14 => zgR S M2 (r14) 10 18 17 (fun r15 => zrc S (r15) 1 7 ((gX1_begin S (r15) ((v4 - (7 : Int32))) M2).bind (fun M16 => zpI S M16 (p0) 3 10 7 ((0 : Int32)) (fun M17 => zpI S M17 (p0) 3 10 8 ((0 : Int32)) (fun M18 => gX3_laws_89 S zfu (p0) ((v4 - (7 : Int32))) ((1 : Int32)) ((0 : Int32)) M18)))))) else zrc S (p0) 3 10 (zb2 (gX3_fails S (p0) ((3 : Int32)) M2) (fun v19 M20 => zbo (v19) (some (v19, M20))))))))) else zrc S (p0) 3 10 (zb2 (gX3_fails S (p0) ((1 : Int32)) M2) (fun v21 M22 => zbo (v21) (some (v21, M22)))))) else zrc S (p0) 3 10 (zb2 (gX3_fails S (p0) ((1 : Int32)) M2) (fun v7 M8 => zbo (v7) (some (v7, M8))))))))))))
set_option maxHeartbeats 4000000 in
set_option maxRecDepth 100000 in
theorem c_X3_laws (w : zWd) (S : List (Nat × Nat)) (p0 : Nat) (M : zM) : CT (zfIM S) w 5 mX3_laws [.ref (p0)] (S, M) (gX3_laws S p0 M) := by
  refine CT.of (by decide) (Nat.le_of_ble_eq_true rfl) ?_
  show AJ _ _ _ _ 0 [(0, .ref (p0))] [] _ _
  unfold gX3_laws
  refine aj_aload_n (0) dX3_laws_0 rfl rfl ?_
  refine aj_getR (TX := TX3) zc3 (by decide) rfl (Or.inl zg_284) dX3_laws_1 (fun r1 => ?_)
  refine rV_VM (as := []) (c_X9_next w S _ _) mv_X9_next rfl zg_681 (by decide) (Nat.le_of_ble_eq_true rfl) dX3_laws_4 (fun M2 => ?_)
  refine aj_aload_n (0) dX3_laws_7 rfl rfl ?_
  refine aj_getR (TX := TX3) zc3 (by decide) rfl (Or.inl zg_284) dX3_laws_8 (fun r3 => ?_)
  refine r_getI (TX := TX9) zc9 (by decide) rfl (Or.inr ⟨_, zn_122⟩) dX3_laws_11 (fun v4 => ?_)
  refine aj_bipush (v := (7 : Int32)) dX3_laws_14 (by decide) ?_
  refine aj_isub dX3_laws_16 ?_
  refine aj_istore_n (ls2 := [(1, .int ((v4 - (7 : Int32)))), (0, .ref (p0))]) dX3_laws_17 rfl (Nat.le_of_ble_eq_true rfl) rfl ?_
  refine aj_aload_n (1) dX3_laws_18 rfl rfl ?_
  refine aj_getR (TX := TX3) zc3 (by decide) rfl (Or.inl zg_284) dX3_laws_19 (fun r5 => ?_)
  refine r_getI (TX := TX9) zc9 (by decide) rfl (Or.inr ⟨_, zn_120⟩) dX3_laws_22 (fun v6 => ?_)
  refine aj_iconst (v := (3 : Int32)) dX3_laws_25 (by decide) ?_
  refine aj_icmp_ne (tgt := 38) dX3_laws_26 (by decide) (fun h => ?_) (fun h => ?_)
  · refine aj_aload_n (1) dX3_laws_38 rfl rfl ?_
    refine aj_iconst (v := (1 : Int32)) dX3_laws_39 (by decide) ?_
    refine rV_IM (as := [.int ((1 : Int32))]) (c_X3_fails w S _ _ _) mv_X3_fails rfl zg_673 (by decide) (Nat.le_of_ble_eq_true rfl) dX3_laws_40 (fun v7 M8 => ?_)
    refine r_bo (fun hn => ?_)
    exact aj_iret dX3_laws_43 rfl hn rfl
  refine aj_iload_n (0) dX3_laws_29 rfl rfl ?_
  refine aj_if_lt (tgt := 38) dX3_laws_30 (by decide) (fun h => ?_) (fun h => ?_)
  · refine aj_aload_n (1) dX3_laws_38 rfl rfl ?_
    refine aj_iconst (v := (1 : Int32)) dX3_laws_39 (by decide) ?_
    refine rV_IM (as := [.int ((1 : Int32))]) (c_X3_fails w S _ _ _) mv_X3_fails rfl zg_673 (by decide) (Nat.le_of_ble_eq_true rfl) dX3_laws_40 (fun v9 M10 => ?_)
    refine r_bo (fun hn => ?_)
    exact aj_iret dX3_laws_43 rfl hn rfl
  refine aj_iload_n (0) dX3_laws_33 rfl rfl ?_
  refine aj_iconst (v := (3 : Int32)) dX3_laws_34 (by decide) ?_
  refine aj_icmp_lt (tgt := 44) dX3_laws_35 (by decide) (fun h => ?_) (fun h => ?_)
  · refine aj_aload_n (1) dX3_laws_44 rfl rfl ?_
    refine aj_getR (TX := TX3) zc3 (by decide) rfl (Or.inl zg_285) dX3_laws_45 (fun r11 => ?_)
    refine aj_getR (TX := TX10) zc10 (by decide) rfl (Or.inr ⟨_, zn_243⟩) dX3_laws_48 (fun r12 => ?_)
    refine aj_iload_n (0) dX3_laws_51 rfl rfl ?_
    refine rV_I (as := [.int ((v4 - (7 : Int32)))]) (c_X1_has w S _ _ _) mv_X1_has rfl zg_744 (by decide) (Nat.le_of_ble_eq_true rfl) dX3_laws_52 (fun v13 => ?_)
    refine aj_if_eq (tgt := 64) dX3_laws_55 (by decide) (fun h => ?_) (fun h => ?_)
    · refine aj_aload_n (1) dX3_laws_64 rfl rfl ?_
      refine aj_getR (TX := TX3) zc3 (by decide) rfl (Or.inl zg_285) dX3_laws_65 (fun r14 => ?_)
      refine aj_getR (TX := TX10) zc10 (by decide) rfl (Or.inr ⟨_, zn_243⟩) dX3_laws_68 (fun r15 => ?_)
      refine aj_iload_n (0) dX3_laws_71 rfl rfl ?_
      refine rV_VM (as := [.int ((v4 - (7 : Int32)))]) (c_X1_begin w S _ _ _) mv_X1_begin rfl zg_749 (by decide) (Nat.le_of_ble_eq_true rfl) dX3_laws_72 (fun M16 => ?_)
      refine aj_aload_n (1) dX3_laws_75 rfl rfl ?_
      refine aj_iconst (v := (0 : Int32)) dX3_laws_76 (by decide) ?_
      refine r_putI (TX := TX3) zc3 (by decide) rfl rfl rfl rfl (Or.inl zg_293) dX3_laws_77 (fun M17 => ?_)
      refine aj_aload_n (1) dX3_laws_80 rfl rfl ?_
      refine aj_iconst (v := (0 : Int32)) dX3_laws_81 (by decide) ?_
      refine r_putI (TX := TX3) zc3 (by decide) rfl rfl rfl rfl (Or.inl zg_294) dX3_laws_82 (fun M18 => ?_)
      refine aj_iconst (v := (1 : Int32)) dX3_laws_85 (by decide) ?_
      refine aj_istore_n (ls2 := [(2, .int ((1 : Int32))), (1, .int ((v4 - (7 : Int32)))), (0, .ref (p0))]) dX3_laws_86 rfl (Nat.le_of_ble_eq_true rfl) rfl ?_
      refine aj_iconst (v := (0 : Int32)) dX3_laws_87 (by decide) ?_
      refine aj_istore_n (ls2 := [(3, .int ((0 : Int32))), (2, .int ((1 : Int32))), (1, .int ((v4 - (7 : Int32)))), (0, .ref (p0))]) dX3_laws_88 rfl (Nat.le_of_ble_eq_true rfl) rfl ?_
      refine AJ.sub [3, 2, 1, 0] rfl ?_
      exact t_X3_laws_89 w S zfu (p0) ((v4 - (7 : Int32))) ((1 : Int32)) ((0 : Int32)) M18
    refine aj_aload_n (1) dX3_laws_58 rfl rfl ?_
    refine aj_iconst (v := (3 : Int32)) dX3_laws_59 (by decide) ?_
    refine rV_IM (as := [.int ((3 : Int32))]) (c_X3_fails w S _ _ _) mv_X3_fails rfl zg_673 (by decide) (Nat.le_of_ble_eq_true rfl) dX3_laws_60 (fun v19 M20 => ?_)
    refine r_bo (fun hn => ?_)
    exact aj_iret dX3_laws_63 rfl hn rfl
  refine aj_aload_n (1) dX3_laws_38 rfl rfl ?_
  refine aj_iconst (v := (1 : Int32)) dX3_laws_39 (by decide) ?_
  refine rV_IM (as := [.int ((1 : Int32))]) (c_X3_fails w S _ _ _) mv_X3_fails rfl zg_673 (by decide) (Nat.le_of_ble_eq_true rfl) dX3_laws_40 (fun v21 M22 => ?_)
  refine r_bo (fun hn => ?_)
  exact aj_iret dX3_laws_43 rfl hn rfl
def gX3_seeds (S : List (Nat × Nat)) (p0 : Nat) (M : zM) : Option (Int32 × zM) := zgI S M (p0) 3 10 5 (fun v1 => (if v1 = 0 then zpI S M (p0) 3 10 5 ((1 : Int32)) (fun M2 => zgR S M2 (p0) 3 10 0 (fun r3 => zrc S (r3) 9 7 ((gX9_next S (r3) M2).bind (fun M4 => zrc S (p0) 3 10 (zb2 (gX3_isNumber S (p0) ((0 : Int32)) ((99999 : Int32)) M4) (fun v5 M6 => (if v5 = 0 then some ((0 : Int32), M6) else zgR S M6 (p0) 3 10 1 (fun r7 => zrc S (p0) 3 10 (zb2 (gX3_taken S (p0) M6) (fun v8 M9 => zpI S M9 (r7) 10 18 16 (v8) (fun M10 => some ((1 : Int32), M10)))))))))))) else zrc S (p0) 3 10 (zb2 (gX3_fails S (p0) ((3 : Int32)) M) (fun v11 M12 => zbo (v11) (some (v11, M12))))))
set_option maxHeartbeats 4000000 in
set_option maxRecDepth 100000 in
theorem c_X3_seeds (w : zWd) (S : List (Nat × Nat)) (p0 : Nat) (M : zM) : CT (zfIM S) w 5 mX3_seeds [.ref (p0)] (S, M) (gX3_seeds S p0 M) := by
  refine CT.of (by decide) (Nat.le_of_ble_eq_true rfl) ?_
  show AJ _ _ _ _ 0 [(0, .ref (p0))] [] _ _
  unfold gX3_seeds
  refine aj_aload_n (0) dX3_seeds_0 rfl rfl ?_
  refine r_getI (TX := TX3) zc3 (by decide) rfl (Or.inl zg_291) dX3_seeds_1 (fun v1 => ?_)
  refine aj_if_eq (tgt := 13) dX3_seeds_4 (by decide) (fun h => ?_) (fun h => ?_)
  · refine aj_aload_n (0) dX3_seeds_13 rfl rfl ?_
    refine aj_iconst (v := (1 : Int32)) dX3_seeds_14 (by decide) ?_
    refine r_putI (TX := TX3) zc3 (by decide) rfl rfl (by decide +kernel) rfl (Or.inl zg_291) dX3_seeds_15 (fun M2 => ?_)
    refine aj_aload_n (0) dX3_seeds_18 rfl rfl ?_
    refine aj_getR (TX := TX3) zc3 (by decide) rfl (Or.inl zg_284) dX3_seeds_19 (fun r3 => ?_)
    refine rV_VM (as := []) (c_X9_next w S _ _) mv_X9_next rfl zg_681 (by decide) (Nat.le_of_ble_eq_true rfl) dX3_seeds_22 (fun M4 => ?_)
    refine aj_aload_n (0) dX3_seeds_25 rfl rfl ?_
    refine aj_iconst (v := (0 : Int32)) dX3_seeds_26 (by decide) ?_
    refine aj_ldc (v := (99999 : Int32)) dX3_seeds_27 zg_739 ?_
    refine rV_IM (as := [.int ((0 : Int32)), .int ((99999 : Int32))]) (c_X3_isNumber w S _ _ _ _) mv_X3_isNumber rfl zg_703 (by decide) (Nat.le_of_ble_eq_true rfl) dX3_seeds_29 (fun v5 M6 => ?_)
    refine aj_if_ne (tgt := 37) dX3_seeds_32 (by decide) (fun h => ?_) (fun h => ?_)
    · refine aj_aload_n (0) dX3_seeds_37 rfl rfl ?_
      refine aj_getR (TX := TX3) zc3 (by decide) rfl (Or.inl zg_285) dX3_seeds_38 (fun r7 => ?_)
      refine aj_aload_n (0) dX3_seeds_41 rfl rfl ?_
      refine rV_IM (as := []) (c_X3_taken w S _ _) mv_X3_taken rfl zg_698 (by decide) (Nat.le_of_ble_eq_true rfl) dX3_seeds_42 (fun v8 M9 => ?_)
      refine r_putI (TX := TX10) zc10 (by decide) rfl rfl rfl rfl (Or.inr ⟨_, zn_240⟩) dX3_seeds_45 (fun M10 => ?_)
      refine aj_iconst (v := (1 : Int32)) dX3_seeds_48 (by decide) ?_
      exact aj_iret dX3_seeds_49 rfl (by decide +kernel) rfl
    refine aj_iconst (v := (0 : Int32)) dX3_seeds_35 (by decide) ?_
    exact aj_iret dX3_seeds_36 rfl (by decide +kernel) rfl
  refine aj_aload_n (0) dX3_seeds_7 rfl rfl ?_
  refine aj_iconst (v := (3 : Int32)) dX3_seeds_8 (by decide) ?_
  refine rV_IM (as := [.int ((3 : Int32))]) (c_X3_fails w S _ _ _) mv_X3_fails rfl zg_673 (by decide) (Nat.le_of_ble_eq_true rfl) dX3_seeds_9 (fun v11 M12 => ?_)
  refine r_bo (fun hn => ?_)
  exact aj_iret dX3_seeds_12 rfl hn rfl
def gX3_slips (S : List (Nat × Nat)) (p0 : Nat) (M : zM) : Option (Int32 × zM) := zgI S M (p0) 3 10 4 (fun v1 => (if v1 = 0 then zpI S M (p0) 3 10 4 ((1 : Int32)) (fun M2 => zgR S M2 (p0) 3 10 0 (fun r3 => zrc S (r3) 9 7 ((gX9_next S (r3) M2).bind (fun M4 => zrc S (p0) 3 10 (zb2 (gX3_isNumber S (p0) ((0 : Int32)) ((100 : Int32)) M4) (fun v5 M6 => (if v5 = 0 then some ((0 : Int32), M6) else zgR S M6 (p0) 3 10 1 (fun r7 => zrc S (p0) 3 10 (zb2 (gX3_taken S (p0) M6) (fun v8 M9 => zpI S M9 (r7) 10 18 15 (v8) (fun M10 => some ((1 : Int32), M10)))))))))))) else zrc S (p0) 3 10 (zb2 (gX3_fails S (p0) ((3 : Int32)) M) (fun v11 M12 => zbo (v11) (some (v11, M12))))))
set_option maxHeartbeats 4000000 in
set_option maxRecDepth 100000 in
theorem c_X3_slips (w : zWd) (S : List (Nat × Nat)) (p0 : Nat) (M : zM) : CT (zfIM S) w 5 mX3_slips [.ref (p0)] (S, M) (gX3_slips S p0 M) := by
  refine CT.of (by decide) (Nat.le_of_ble_eq_true rfl) ?_
  show AJ _ _ _ _ 0 [(0, .ref (p0))] [] _ _
  unfold gX3_slips
  refine aj_aload_n (0) dX3_slips_0 rfl rfl ?_
  refine r_getI (TX := TX3) zc3 (by decide) rfl (Or.inl zg_290) dX3_slips_1 (fun v1 => ?_)
  refine aj_if_eq (tgt := 13) dX3_slips_4 (by decide) (fun h => ?_) (fun h => ?_)
  · refine aj_aload_n (0) dX3_slips_13 rfl rfl ?_
    refine aj_iconst (v := (1 : Int32)) dX3_slips_14 (by decide) ?_
    refine r_putI (TX := TX3) zc3 (by decide) rfl rfl (by decide +kernel) rfl (Or.inl zg_290) dX3_slips_15 (fun M2 => ?_)
    refine aj_aload_n (0) dX3_slips_18 rfl rfl ?_
    refine aj_getR (TX := TX3) zc3 (by decide) rfl (Or.inl zg_284) dX3_slips_19 (fun r3 => ?_)
    refine rV_VM (as := []) (c_X9_next w S _ _) mv_X9_next rfl zg_681 (by decide) (Nat.le_of_ble_eq_true rfl) dX3_slips_22 (fun M4 => ?_)
    refine aj_aload_n (0) dX3_slips_25 rfl rfl ?_
    refine aj_iconst (v := (0 : Int32)) dX3_slips_26 (by decide) ?_
    refine aj_bipush (v := (100 : Int32)) dX3_slips_27 (by decide) ?_
    refine rV_IM (as := [.int ((0 : Int32)), .int ((100 : Int32))]) (c_X3_isNumber w S _ _ _ _) mv_X3_isNumber rfl zg_703 (by decide) (Nat.le_of_ble_eq_true rfl) dX3_slips_29 (fun v5 M6 => ?_)
    refine aj_if_ne (tgt := 37) dX3_slips_32 (by decide) (fun h => ?_) (fun h => ?_)
    · refine aj_aload_n (0) dX3_slips_37 rfl rfl ?_
      refine aj_getR (TX := TX3) zc3 (by decide) rfl (Or.inl zg_285) dX3_slips_38 (fun r7 => ?_)
      refine aj_aload_n (0) dX3_slips_41 rfl rfl ?_
      refine rV_IM (as := []) (c_X3_taken w S _ _) mv_X3_taken rfl zg_698 (by decide) (Nat.le_of_ble_eq_true rfl) dX3_slips_42 (fun v8 M9 => ?_)
      refine r_putI (TX := TX10) zc10 (by decide) rfl rfl rfl rfl (Or.inr ⟨_, zn_236⟩) dX3_slips_45 (fun M10 => ?_)
      refine aj_iconst (v := (1 : Int32)) dX3_slips_48 (by decide) ?_
      exact aj_iret dX3_slips_49 rfl (by decide +kernel) rfl
    refine aj_iconst (v := (0 : Int32)) dX3_slips_35 (by decide) ?_
    exact aj_iret dX3_slips_36 rfl (by decide +kernel) rfl
  refine aj_aload_n (0) dX3_slips_7 rfl rfl ?_
  refine aj_iconst (v := (3 : Int32)) dX3_slips_8 (by decide) ?_
  refine rV_IM (as := [.int ((3 : Int32))]) (c_X3_fails w S _ _ _) mv_X3_fails rfl zg_673 (by decide) (Nat.le_of_ble_eq_true rfl) dX3_slips_9 (fun v11 M12 => ?_)
  refine r_bo (fun hn => ?_)
  exact aj_iret dX3_slips_12 rfl hn rfl
def gX3_isNewName_48 (S : List (Nat × Nat)) (p0 : Nat) (x0s : Int32) (M : zM) : Option (Int32 × zM) := (if x0s = (-1 : Int32) then some ((1 : Int32), M) else zrc S (p0) 3 10 (zb2 (gX3_fails S (p0) ((3 : Int32)) M) (fun v1 M2 => (if v1 = 0 then some ((0 : Int32), M2) else some ((1 : Int32), M2)))))
set_option maxHeartbeats 4000000 in
set_option maxRecDepth 100000 in
theorem t_X3_isNewName_48 (w : zWd) (S : List (Nat × Nat)) (p0 : Nat) (x0s : Int32) (M : zM) : AJ (zfIM S) w 4 mX3_isNewName 48 [(0, .ref (p0))] [.int (x0s)] (S, M) (gX3_isNewName_48 S p0 x0s M) := by
  unfold gX3_isNewName_48
  refine aj_istore_n (ls2 := [(3, .int (x0s)), (0, .ref (p0))]) dX3_isNewName_48 rfl (Nat.le_of_ble_eq_true rfl) rfl ?_
  refine aj_iload_n (0) dX3_isNewName_49 rfl rfl ?_
  refine aj_iconst (v := (-1 : Int32)) dX3_isNewName_50 (by decide) ?_
  refine aj_icmp_eq (tgt := 62) dX3_isNewName_51 (by decide) (fun h => ?_) (fun h => ?_)
  · refine aj_iconst (v := (1 : Int32)) dX3_isNewName_62 (by decide) ?_
    refine aj_goto (tgt := 67) dX3_isNewName_63 (by decide) ?_
    exact aj_iret dX3_isNewName_67 rfl (by decide +kernel) rfl
  refine aj_aload_n (1) dX3_isNewName_54 rfl rfl ?_
  refine aj_iconst (v := (3 : Int32)) dX3_isNewName_55 (by decide) ?_
  refine rV_IM (as := [.int ((3 : Int32))]) (c_X3_fails w S _ _ _) mv_X3_fails rfl zg_673 (by decide) (Nat.le_of_ble_eq_true rfl) dX3_isNewName_56 (fun v1 M2 => ?_)
  refine aj_if_eq (tgt := 66) dX3_isNewName_59 (by decide) (fun h => ?_) (fun h => ?_)
  · refine aj_iconst (v := (0 : Int32)) dX3_isNewName_66 (by decide) ?_
    exact aj_iret dX3_isNewName_67 rfl (by decide +kernel) rfl
  refine aj_iconst (v := (1 : Int32)) dX3_isNewName_62 (by decide) ?_
  refine aj_goto (tgt := 67) dX3_isNewName_63 (by decide) ?_
  exact aj_iret dX3_isNewName_67 rfl (by decide +kernel) rfl
def gX3_isNewName (S : List (Nat × Nat)) (p0 : Nat) (x1 : Int32) (M : zM) : Option (Int32 × zM) := zgR S M (p0) 3 10 0 (fun r1 => zgI S M (r1) 9 7 5 (fun v2 => (if v2 = (2 : Int32) then zgR S M (p0) 3 10 0 (fun r3 => zgI S M (r3) 9 7 6 (fun v4 => (if x1 = 0 then zgR S M (p0) 3 10 1 (fun r7 => zrc S (r7) 10 18 ((gX10_tradeNamed S (r7) (v4) M).bind (fun v8 => gX3_isNewName_48 S (p0) (v8) M))) else zgR S M (p0) 3 10 1 (fun r5 => zrc S (r5) 10 18 ((gX10_workNamed S (r5) (v4) M).bind (fun v6 => gX3_isNewName_48 S (p0) (v6) M)))))) else zrc S (p0) 3 10 (zb2 (gX3_fails S (p0) ((1 : Int32)) M) (fun v9 M10 => zbo (v9) (some (v9, M10)))))))
set_option maxHeartbeats 4000000 in
set_option maxRecDepth 100000 in
theorem c_X3_isNewName (w : zWd) (S : List (Nat × Nat)) (p0 : Nat) (x1 : Int32) (M : zM) : CT (zfIM S) w 4 mX3_isNewName [.ref (p0), .int (x1)] (S, M) (gX3_isNewName S p0 x1 M) := by
  refine CT.of (by decide) (Nat.le_of_ble_eq_true rfl) ?_
  show AJ _ _ _ _ 0 [(0, .ref (p0)), (1, .int (x1))] [] _ _
  unfold gX3_isNewName
  refine aj_aload_n (0) dX3_isNewName_0 rfl rfl ?_
  refine aj_getR (TX := TX3) zc3 (by decide) rfl (Or.inl zg_284) dX3_isNewName_1 (fun r1 => ?_)
  refine r_getI (TX := TX9) zc9 (by decide) rfl (Or.inr ⟨_, zn_120⟩) dX3_isNewName_4 (fun v2 => ?_)
  refine aj_iconst (v := (2 : Int32)) dX3_isNewName_7 (by decide) ?_
  refine aj_icmp_eq (tgt := 17) dX3_isNewName_8 (by decide) (fun h => ?_) (fun h => ?_)
  · refine aj_aload_n (0) dX3_isNewName_17 rfl rfl ?_
    refine aj_getR (TX := TX3) zc3 (by decide) rfl (Or.inl zg_284) dX3_isNewName_18 (fun r3 => ?_)
    refine r_getI (TX := TX9) zc9 (by decide) rfl (Or.inr ⟨_, zn_122⟩) dX3_isNewName_21 (fun v4 => ?_)
    refine aj_istore_n (ls2 := [(2, .int (v4)), (0, .ref (p0)), (1, .int (x1))]) dX3_isNewName_24 rfl (Nat.le_of_ble_eq_true rfl) rfl ?_
    refine aj_iload_n (2) dX3_isNewName_25 rfl rfl ?_
    refine aj_if_ne (tgt := 40) dX3_isNewName_26 (by decide) (fun h => ?_) (fun h => ?_)
    · refine aj_aload_n (1) dX3_isNewName_40 rfl rfl ?_
      refine aj_getR (TX := TX3) zc3 (by decide) rfl (Or.inl zg_285) dX3_isNewName_41 (fun r5 => ?_)
      refine aj_iload_n (0) dX3_isNewName_44 rfl rfl ?_
      refine rV_I (as := [.int (v4)]) (c_X10_workNamed w S _ _ _) mv_X10_workNamed rfl zg_694 (by decide) (Nat.le_of_ble_eq_true rfl) dX3_isNewName_45 (fun v6 => ?_)
      refine AJ.sub [1] rfl ?_
      exact t_X3_isNewName_48 w S (p0) (v6) M
    refine aj_aload_n (1) dX3_isNewName_29 rfl rfl ?_
    refine aj_getR (TX := TX3) zc3 (by decide) rfl (Or.inl zg_285) dX3_isNewName_30 (fun r7 => ?_)
    refine aj_iload_n (0) dX3_isNewName_33 rfl rfl ?_
    refine rV_I (as := [.int (v4)]) (c_X10_tradeNamed w S _ _ _) mv_X10_tradeNamed rfl zg_686 (by decide) (Nat.le_of_ble_eq_true rfl) dX3_isNewName_34 (fun v8 => ?_)
    refine aj_goto (tgt := 48) dX3_isNewName_37 (by decide) ?_
    refine AJ.sub [1] rfl ?_
    exact t_X3_isNewName_48 w S (p0) (v8) M
  refine aj_aload_n (0) dX3_isNewName_11 rfl rfl ?_
  refine aj_iconst (v := (1 : Int32)) dX3_isNewName_12 (by decide) ?_
  refine rV_IM (as := [.int ((1 : Int32))]) (c_X3_fails w S _ _ _) mv_X3_fails rfl zg_673 (by decide) (Nat.le_of_ble_eq_true rfl) dX3_isNewName_13 (fun v9 M10 => ?_)
  refine r_bo (fun hn => ?_)
  exact aj_iret dX3_isNewName_16 rfl hn rfl
def gX3_trades (S : List (Nat × Nat)) (p0 : Nat) (M : zM) : Option (Int32 × zM) := zgR S M (p0) 3 10 1 (fun r1 => zgI S M (r1) 10 18 1 (fun v2 => (if v2 < (6 : Int32) then zgR S M (p0) 3 10 0 (fun r3 => zrc S (r3) 9 7 ((gX9_next S (r3) M).bind (fun M4 => zrc S (p0) 3 10 (zb2 (gX3_isNewName S (p0) ((0 : Int32)) M4) (fun v5 M6 => (if v5 = 0 then some ((0 : Int32), M6) else zgR S M6 (p0) 3 10 1 (fun r7 => zgR S M6 (r7) 10 18 2 (fun r8 => zgR S M6 (p0) 3 10 1 (fun r9 => zgI S M6 (r9) 10 18 1 (fun v10 => zrc S (p0) 3 10 (zb2 (gX3_taken S (p0) M6) (fun v11 M12 => zrc S (r8) 5 1 ((gX5_set S (r8) (v10) (v11) M12).bind (fun M13 => zrc S (p0) 3 10 (zb2 (gX3_isNumber S (p0) ((0 : Int32)) ((23 : Int32)) M13) (fun v14 M15 => (if v14 = 0 then some ((0 : Int32), M15) else zgR S M15 (p0) 3 10 1 (fun r16 => zgR S M15 (r16) 10 18 3 (fun r17 => zgR S M15 (p0) 3 10 1 (fun r18 => zgI S M15 (r18) 10 18 1 (fun v19 => zrc S (p0) 3 10 (zb2 (gX3_taken S (p0) M15) (fun v20 M21 => zrc S (r17) 5 1 ((gX5_set S (r17) (v19) (v20) M21).bind (fun M22 => zrc S (p0) 3 10 (zb2 (gX3_isNumber S (p0) ((0 : Int32)) ((9 : Int32)) M22) (fun v23 M24 => (if v23 = 0 then some ((0 : Int32), M24) else zgR S M24 (p0) 3 10 1 (fun r25 => zgR S M24 (r25) 10 18 4 (fun r26 => zgR S M24 (p0) 3 10 1 (fun r27 => zgI S M24 (r27) 10 18 1 (fun v28 => zrc S (p0) 3 10 (zb2 (gX3_taken S (p0) M24) (fun v29 M30 => zrc S (r26) 5 1 ((gX5_set S (r26) (v28) (v29) M30).bind (fun M31 => zgR S M31 (p0) 3 10 1 (fun r32 => zgI S M31 (r32) 10 18 1 (fun v33 => zpI S M31 (r32) 10 18 1 ((v33 + (1 : Int32))) (fun M34 => some ((1 : Int32), M34)))))))))))))))))))))))))))))))))))))))) else zrc S (p0) 3 10 (zb2 (gX3_fails S (p0) ((2 : Int32)) M) (fun v35 M36 => zbo (v35) (some (v35, M36)))))))
set_option maxHeartbeats 4000000 in
set_option maxRecDepth 100000 in
theorem c_X3_trades (w : zWd) (S : List (Nat × Nat)) (p0 : Nat) (M : zM) : CT (zfIM S) w 5 mX3_trades [.ref (p0)] (S, M) (gX3_trades S p0 M) := by
  refine CT.of (by decide) (Nat.le_of_ble_eq_true rfl) ?_
  show AJ _ _ _ _ 0 [(0, .ref (p0))] [] _ _
  unfold gX3_trades
  refine aj_aload_n (0) dX3_trades_0 rfl rfl ?_
  refine aj_getR (TX := TX3) zc3 (by decide) rfl (Or.inl zg_285) dX3_trades_1 (fun r1 => ?_)
  refine r_getI (TX := TX10) zc10 (by decide) rfl (Or.inr ⟨_, zn_186⟩) dX3_trades_4 (fun v2 => ?_)
  refine aj_bipush (v := (6 : Int32)) dX3_trades_7 (by decide) ?_
  refine aj_icmp_lt (tgt := 18) dX3_trades_9 (by decide) (fun h => ?_) (fun h => ?_)
  · refine aj_aload_n (0) dX3_trades_18 rfl rfl ?_
    refine aj_getR (TX := TX3) zc3 (by decide) rfl (Or.inl zg_284) dX3_trades_19 (fun r3 => ?_)
    refine rV_VM (as := []) (c_X9_next w S _ _) mv_X9_next rfl zg_681 (by decide) (Nat.le_of_ble_eq_true rfl) dX3_trades_22 (fun M4 => ?_)
    refine aj_aload_n (0) dX3_trades_25 rfl rfl ?_
    refine aj_iconst (v := (0 : Int32)) dX3_trades_26 (by decide) ?_
    refine rV_IM (as := [.int ((0 : Int32))]) (c_X3_isNewName w S _ _ _) mv_X3_isNewName rfl zg_682 (by decide) (Nat.le_of_ble_eq_true rfl) dX3_trades_27 (fun v5 M6 => ?_)
    refine aj_if_ne (tgt := 35) dX3_trades_30 (by decide) (fun h => ?_) (fun h => ?_)
    · refine aj_aload_n (0) dX3_trades_35 rfl rfl ?_
      refine aj_getR (TX := TX3) zc3 (by decide) rfl (Or.inl zg_285) dX3_trades_36 (fun r7 => ?_)
      refine aj_getR (TX := TX10) zc10 (by decide) rfl (Or.inr ⟨_, zn_189⟩) dX3_trades_39 (fun r8 => ?_)
      refine aj_aload_n (0) dX3_trades_42 rfl rfl ?_
      refine aj_getR (TX := TX3) zc3 (by decide) rfl (Or.inl zg_285) dX3_trades_43 (fun r9 => ?_)
      refine r_getI (TX := TX10) zc10 (by decide) rfl (Or.inr ⟨_, zn_186⟩) dX3_trades_46 (fun v10 => ?_)
      refine aj_aload_n (0) dX3_trades_49 rfl rfl ?_
      refine rV_IM (as := []) (c_X3_taken w S _ _) mv_X3_taken rfl zg_698 (by decide) (Nat.le_of_ble_eq_true rfl) dX3_trades_50 (fun v11 M12 => ?_)
      refine rV_VM (as := [.int (v10), .int (v11)]) (c_X5_set w S _ _ _ _) mv_X5_set rfl zg_702 (by decide) (Nat.le_of_ble_eq_true rfl) dX3_trades_53 (fun M13 => ?_)
      refine aj_aload_n (0) dX3_trades_56 rfl rfl ?_
      refine aj_iconst (v := (0 : Int32)) dX3_trades_57 (by decide) ?_
      refine aj_bipush (v := (23 : Int32)) dX3_trades_58 (by decide) ?_
      refine rV_IM (as := [.int ((0 : Int32)), .int ((23 : Int32))]) (c_X3_isNumber w S _ _ _ _) mv_X3_isNumber rfl zg_703 (by decide) (Nat.le_of_ble_eq_true rfl) dX3_trades_60 (fun v14 M15 => ?_)
      refine aj_if_ne (tgt := 68) dX3_trades_63 (by decide) (fun h => ?_) (fun h => ?_)
      · refine aj_aload_n (0) dX3_trades_68 rfl rfl ?_
        refine aj_getR (TX := TX3) zc3 (by decide) rfl (Or.inl zg_285) dX3_trades_69 (fun r16 => ?_)
        refine aj_getR (TX := TX10) zc10 (by decide) rfl (Or.inr ⟨_, zn_193⟩) dX3_trades_72 (fun r17 => ?_)
        refine aj_aload_n (0) dX3_trades_75 rfl rfl ?_
        refine aj_getR (TX := TX3) zc3 (by decide) rfl (Or.inl zg_285) dX3_trades_76 (fun r18 => ?_)
        refine r_getI (TX := TX10) zc10 (by decide) rfl (Or.inr ⟨_, zn_186⟩) dX3_trades_79 (fun v19 => ?_)
        refine aj_aload_n (0) dX3_trades_82 rfl rfl ?_
        refine rV_IM (as := []) (c_X3_taken w S _ _) mv_X3_taken rfl zg_698 (by decide) (Nat.le_of_ble_eq_true rfl) dX3_trades_83 (fun v20 M21 => ?_)
        refine rV_VM (as := [.int (v19), .int (v20)]) (c_X5_set w S _ _ _ _) mv_X5_set rfl zg_702 (by decide) (Nat.le_of_ble_eq_true rfl) dX3_trades_86 (fun M22 => ?_)
        refine aj_aload_n (0) dX3_trades_89 rfl rfl ?_
        refine aj_iconst (v := (0 : Int32)) dX3_trades_90 (by decide) ?_
        refine aj_bipush (v := (9 : Int32)) dX3_trades_91 (by decide) ?_
        refine rV_IM (as := [.int ((0 : Int32)), .int ((9 : Int32))]) (c_X3_isNumber w S _ _ _ _) mv_X3_isNumber rfl zg_703 (by decide) (Nat.le_of_ble_eq_true rfl) dX3_trades_93 (fun v23 M24 => ?_)
        refine aj_if_ne (tgt := 101) dX3_trades_96 (by decide) (fun h => ?_) (fun h => ?_)
        · refine aj_aload_n (0) dX3_trades_101 rfl rfl ?_
          refine aj_getR (TX := TX3) zc3 (by decide) rfl (Or.inl zg_285) dX3_trades_102 (fun r25 => ?_)
          refine aj_getR (TX := TX10) zc10 (by decide) rfl (Or.inr ⟨_, zn_198⟩) dX3_trades_105 (fun r26 => ?_)
          refine aj_aload_n (0) dX3_trades_108 rfl rfl ?_
          refine aj_getR (TX := TX3) zc3 (by decide) rfl (Or.inl zg_285) dX3_trades_109 (fun r27 => ?_)
          refine r_getI (TX := TX10) zc10 (by decide) rfl (Or.inr ⟨_, zn_186⟩) dX3_trades_112 (fun v28 => ?_)
          refine aj_aload_n (0) dX3_trades_115 rfl rfl ?_
          refine rV_IM (as := []) (c_X3_taken w S _ _) mv_X3_taken rfl zg_698 (by decide) (Nat.le_of_ble_eq_true rfl) dX3_trades_116 (fun v29 M30 => ?_)
          refine rV_VM (as := [.int (v28), .int (v29)]) (c_X5_set w S _ _ _ _) mv_X5_set rfl zg_702 (by decide) (Nat.le_of_ble_eq_true rfl) dX3_trades_119 (fun M31 => ?_)
          refine aj_aload_n (0) dX3_trades_122 rfl rfl ?_
          refine aj_getR (TX := TX3) zc3 (by decide) rfl (Or.inl zg_285) dX3_trades_123 (fun r32 => ?_)
          refine aj_dup dX3_trades_126 rfl ?_
          refine r_getI (TX := TX10) zc10 (by decide) rfl (Or.inr ⟨_, zn_186⟩) dX3_trades_127 (fun v33 => ?_)
          refine aj_iconst (v := (1 : Int32)) dX3_trades_130 (by decide) ?_
          refine aj_iadd dX3_trades_131 ?_
          refine r_putI (TX := TX10) zc10 (by decide) rfl rfl rfl rfl (Or.inr ⟨_, zn_186⟩) dX3_trades_132 (fun M34 => ?_)
          refine aj_iconst (v := (1 : Int32)) dX3_trades_135 (by decide) ?_
          exact aj_iret dX3_trades_136 rfl (by decide +kernel) rfl
        refine aj_iconst (v := (0 : Int32)) dX3_trades_99 (by decide) ?_
        exact aj_iret dX3_trades_100 rfl (by decide +kernel) rfl
      refine aj_iconst (v := (0 : Int32)) dX3_trades_66 (by decide) ?_
      exact aj_iret dX3_trades_67 rfl (by decide +kernel) rfl
    refine aj_iconst (v := (0 : Int32)) dX3_trades_33 (by decide) ?_
    exact aj_iret dX3_trades_34 rfl (by decide +kernel) rfl
  refine aj_aload_n (0) dX3_trades_12 rfl rfl ?_
  refine aj_iconst (v := (2 : Int32)) dX3_trades_13 (by decide) ?_
  refine rV_IM (as := [.int ((2 : Int32))]) (c_X3_fails w S _ _ _) mv_X3_fails rfl zg_673 (by decide) (Nat.le_of_ble_eq_true rfl) dX3_trades_14 (fun v35 M36 => ?_)
  refine r_bo (fun hn => ?_)
  exact aj_iret dX3_trades_17 rfl hn rfl
def gX3_turns (S : List (Nat × Nat)) (p0 : Nat) (M : zM) : Option (Int32 × zM) := zgR S M (p0) 3 10 1 (fun r1 => zgI S M (r1) 10 18 5 (fun v2 => (if v2 < (12 : Int32) then zgR S M (p0) 3 10 0 (fun r3 => zrc S (r3) 9 7 ((gX9_next S (r3) M).bind (fun M4 => zrc S (p0) 3 10 (zb2 (gX3_isTrade S (p0) M4) (fun v5 M6 => (if v5 = 0 then some ((0 : Int32), M6) else zgR S M6 (p0) 3 10 1 (fun r7 => zgR S M6 (r7) 10 18 6 (fun r8 => zgR S M6 (p0) 3 10 1 (fun r9 => zgI S M6 (r9) 10 18 5 (fun v10 => zgR S M6 (p0) 3 10 1 (fun r11 => zrc S (p0) 3 10 (zb2 (gX3_taken S (p0) M6) (fun v12 M13 => zrc S (r11) 10 18 ((gX10_tradeNamed S (r11) (v12) M13).bind (fun v14 => zrc S (r8) 5 1 ((gX5_set S (r8) (v10) (v14) M13).bind (fun M15 => zgR S M15 (p0) 3 10 1 (fun r16 => zgI S M15 (r16) 10 18 5 (fun v17 => zpI S M15 (r16) 10 18 5 ((v17 + (1 : Int32))) (fun M18 => some ((1 : Int32), M18))))))))))))))))))))) else zrc S (p0) 3 10 (zb2 (gX3_fails S (p0) ((2 : Int32)) M) (fun v19 M20 => zbo (v19) (some (v19, M20)))))))
set_option maxHeartbeats 4000000 in
set_option maxRecDepth 100000 in
theorem c_X3_turns (w : zWd) (S : List (Nat × Nat)) (p0 : Nat) (M : zM) : CT (zfIM S) w 5 mX3_turns [.ref (p0)] (S, M) (gX3_turns S p0 M) := by
  refine CT.of (by decide) (Nat.le_of_ble_eq_true rfl) ?_
  show AJ _ _ _ _ 0 [(0, .ref (p0))] [] _ _
  unfold gX3_turns
  refine aj_aload_n (0) dX3_turns_0 rfl rfl ?_
  refine aj_getR (TX := TX3) zc3 (by decide) rfl (Or.inl zg_285) dX3_turns_1 (fun r1 => ?_)
  refine r_getI (TX := TX10) zc10 (by decide) rfl (Or.inr ⟨_, zn_201⟩) dX3_turns_4 (fun v2 => ?_)
  refine aj_bipush (v := (12 : Int32)) dX3_turns_7 (by decide) ?_
  refine aj_icmp_lt (tgt := 18) dX3_turns_9 (by decide) (fun h => ?_) (fun h => ?_)
  · refine aj_aload_n (0) dX3_turns_18 rfl rfl ?_
    refine aj_getR (TX := TX3) zc3 (by decide) rfl (Or.inl zg_284) dX3_turns_19 (fun r3 => ?_)
    refine rV_VM (as := []) (c_X9_next w S _ _) mv_X9_next rfl zg_681 (by decide) (Nat.le_of_ble_eq_true rfl) dX3_turns_22 (fun M4 => ?_)
    refine aj_aload_n (0) dX3_turns_25 rfl rfl ?_
    refine rV_IM (as := []) (c_X3_isTrade w S _ _) mv_X3_isTrade rfl zg_715 (by decide) (Nat.le_of_ble_eq_true rfl) dX3_turns_26 (fun v5 M6 => ?_)
    refine aj_if_ne (tgt := 34) dX3_turns_29 (by decide) (fun h => ?_) (fun h => ?_)
    · refine aj_aload_n (0) dX3_turns_34 rfl rfl ?_
      refine aj_getR (TX := TX3) zc3 (by decide) rfl (Or.inl zg_285) dX3_turns_35 (fun r7 => ?_)
      refine aj_getR (TX := TX10) zc10 (by decide) rfl (Or.inr ⟨_, zn_204⟩) dX3_turns_38 (fun r8 => ?_)
      refine aj_aload_n (0) dX3_turns_41 rfl rfl ?_
      refine aj_getR (TX := TX3) zc3 (by decide) rfl (Or.inl zg_285) dX3_turns_42 (fun r9 => ?_)
      refine r_getI (TX := TX10) zc10 (by decide) rfl (Or.inr ⟨_, zn_201⟩) dX3_turns_45 (fun v10 => ?_)
      refine aj_aload_n (0) dX3_turns_48 rfl rfl ?_
      refine aj_getR (TX := TX3) zc3 (by decide) rfl (Or.inl zg_285) dX3_turns_49 (fun r11 => ?_)
      refine aj_aload_n (0) dX3_turns_52 rfl rfl ?_
      refine rV_IM (as := []) (c_X3_taken w S _ _) mv_X3_taken rfl zg_698 (by decide) (Nat.le_of_ble_eq_true rfl) dX3_turns_53 (fun v12 M13 => ?_)
      refine rV_I (as := [.int (v12)]) (c_X10_tradeNamed w S _ _ _) mv_X10_tradeNamed rfl zg_686 (by decide) (Nat.le_of_ble_eq_true rfl) dX3_turns_56 (fun v14 => ?_)
      refine rV_VM (as := [.int (v10), .int (v14)]) (c_X5_set w S _ _ _ _) mv_X5_set rfl zg_702 (by decide) (Nat.le_of_ble_eq_true rfl) dX3_turns_59 (fun M15 => ?_)
      refine aj_aload_n (0) dX3_turns_62 rfl rfl ?_
      refine aj_getR (TX := TX3) zc3 (by decide) rfl (Or.inl zg_285) dX3_turns_63 (fun r16 => ?_)
      refine aj_dup dX3_turns_66 rfl ?_
      refine r_getI (TX := TX10) zc10 (by decide) rfl (Or.inr ⟨_, zn_201⟩) dX3_turns_67 (fun v17 => ?_)
      refine aj_iconst (v := (1 : Int32)) dX3_turns_70 (by decide) ?_
      refine aj_iadd dX3_turns_71 ?_
      refine r_putI (TX := TX10) zc10 (by decide) rfl rfl rfl rfl (Or.inr ⟨_, zn_201⟩) dX3_turns_72 (fun M18 => ?_)
      refine aj_iconst (v := (1 : Int32)) dX3_turns_75 (by decide) ?_
      exact aj_iret dX3_turns_76 rfl (by decide +kernel) rfl
    refine aj_iconst (v := (0 : Int32)) dX3_turns_32 (by decide) ?_
    exact aj_iret dX3_turns_33 rfl (by decide +kernel) rfl
  refine aj_aload_n (0) dX3_turns_12 rfl rfl ?_
  refine aj_iconst (v := (2 : Int32)) dX3_turns_13 (by decide) ?_
  refine rV_IM (as := [.int ((2 : Int32))]) (c_X3_fails w S _ _ _) mv_X3_fails rfl zg_673 (by decide) (Nat.le_of_ble_eq_true rfl) dX3_turns_14 (fun v19 M20 => ?_)
  refine r_bo (fun hn => ?_)
  exact aj_iret dX3_turns_17 rfl hn rfl
def gX3_works (S : List (Nat × Nat)) (p0 : Nat) (M : zM) : Option (Int32 × zM) := zgR S M (p0) 3 10 1 (fun r1 => zgI S M (r1) 10 18 10 (fun v2 => (if v2 < (5 : Int32) then zgR S M (p0) 3 10 0 (fun r3 => zrc S (r3) 9 7 ((gX9_next S (r3) M).bind (fun M4 => zrc S (p0) 3 10 (zb2 (gX3_isNewName S (p0) ((3 : Int32)) M4) (fun v5 M6 => (if v5 = 0 then some ((0 : Int32), M6) else zgR S M6 (p0) 3 10 1 (fun r7 => zgR S M6 (r7) 10 18 11 (fun r8 => zgR S M6 (p0) 3 10 1 (fun r9 => zgI S M6 (r9) 10 18 10 (fun v10 => zrc S (p0) 3 10 (zb2 (gX3_taken S (p0) M6) (fun v11 M12 => zrc S (r8) 5 1 ((gX5_set S (r8) (v10) (v11) M12).bind (fun M13 => zrc S (p0) 3 10 (zb2 (gX3_isNumber S (p0) ((0 : Int32)) ((24 : Int32)) M13) (fun v14 M15 => (if v14 = 0 then some ((0 : Int32), M15) else zgR S M15 (p0) 3 10 1 (fun r16 => zgR S M15 (r16) 10 18 12 (fun r17 => zgR S M15 (p0) 3 10 1 (fun r18 => zgI S M15 (r18) 10 18 10 (fun v19 => zrc S (p0) 3 10 (zb2 (gX3_taken S (p0) M15) (fun v20 M21 => zrc S (r17) 5 1 ((gX5_set S (r17) (v19) (v20) M21).bind (fun M22 => zrc S (p0) 3 10 (zb2 (gX3_isNumber S (p0) ((0 : Int32)) ((24 : Int32)) M22) (fun v23 M24 => (if v23 = 0 then some ((0 : Int32), M24) else zgR S M24 (p0) 3 10 1 (fun r25 => zgR S M24 (r25) 10 18 13 (fun r26 => zgR S M24 (p0) 3 10 1 (fun r27 => zgI S M24 (r27) 10 18 10 (fun v28 => zrc S (p0) 3 10 (zb2 (gX3_taken S (p0) M24) (fun v29 M30 => zrc S (r26) 5 1 ((gX5_set S (r26) (v28) (v29) M30).bind (fun M31 => zrc S (p0) 3 10 (zb2 (gX3_isNumber S (p0) ((1 : Int32)) ((9 : Int32)) M31) (fun v32 M33 => (if v32 = 0 then some ((0 : Int32), M33) else zgR S M33 (p0) 3 10 1 (fun r34 => zgR S M33 (r34) 10 18 14 (fun r35 => zgR S M33 (p0) 3 10 1 (fun r36 => zgI S M33 (r36) 10 18 10 (fun v37 => zrc S (p0) 3 10 (zb2 (gX3_taken S (p0) M33) (fun v38 M39 => zrc S (r35) 5 1 ((gX5_set S (r35) (v37) (v38) M39).bind (fun M40 => zgR S M40 (p0) 3 10 1 (fun r41 => zgI S M40 (r41) 10 18 10 (fun v42 => zpI S M40 (r41) 10 18 10 ((v42 + (1 : Int32))) (fun M43 => some ((1 : Int32), M43))))))))))))))))))))))))))))))))))))))))))))))))))) else zrc S (p0) 3 10 (zb2 (gX3_fails S (p0) ((2 : Int32)) M) (fun v44 M45 => zbo (v44) (some (v44, M45)))))))
set_option maxHeartbeats 4000000 in
set_option maxRecDepth 100000 in
theorem c_X3_works (w : zWd) (S : List (Nat × Nat)) (p0 : Nat) (M : zM) : CT (zfIM S) w 5 mX3_works [.ref (p0)] (S, M) (gX3_works S p0 M) := by
  refine CT.of (by decide) (Nat.le_of_ble_eq_true rfl) ?_
  show AJ _ _ _ _ 0 [(0, .ref (p0))] [] _ _
  unfold gX3_works
  refine aj_aload_n (0) dX3_works_0 rfl rfl ?_
  refine aj_getR (TX := TX3) zc3 (by decide) rfl (Or.inl zg_285) dX3_works_1 (fun r1 => ?_)
  refine r_getI (TX := TX10) zc10 (by decide) rfl (Or.inr ⟨_, zn_215⟩) dX3_works_4 (fun v2 => ?_)
  refine aj_iconst (v := (5 : Int32)) dX3_works_7 (by decide) ?_
  refine aj_icmp_lt (tgt := 17) dX3_works_8 (by decide) (fun h => ?_) (fun h => ?_)
  · refine aj_aload_n (0) dX3_works_17 rfl rfl ?_
    refine aj_getR (TX := TX3) zc3 (by decide) rfl (Or.inl zg_284) dX3_works_18 (fun r3 => ?_)
    refine rV_VM (as := []) (c_X9_next w S _ _) mv_X9_next rfl zg_681 (by decide) (Nat.le_of_ble_eq_true rfl) dX3_works_21 (fun M4 => ?_)
    refine aj_aload_n (0) dX3_works_24 rfl rfl ?_
    refine aj_iconst (v := (3 : Int32)) dX3_works_25 (by decide) ?_
    refine rV_IM (as := [.int ((3 : Int32))]) (c_X3_isNewName w S _ _ _) mv_X3_isNewName rfl zg_682 (by decide) (Nat.le_of_ble_eq_true rfl) dX3_works_26 (fun v5 M6 => ?_)
    refine aj_if_ne (tgt := 34) dX3_works_29 (by decide) (fun h => ?_) (fun h => ?_)
    · refine aj_aload_n (0) dX3_works_34 rfl rfl ?_
      refine aj_getR (TX := TX3) zc3 (by decide) rfl (Or.inl zg_285) dX3_works_35 (fun r7 => ?_)
      refine aj_getR (TX := TX10) zc10 (by decide) rfl (Or.inr ⟨_, zn_218⟩) dX3_works_38 (fun r8 => ?_)
      refine aj_aload_n (0) dX3_works_41 rfl rfl ?_
      refine aj_getR (TX := TX3) zc3 (by decide) rfl (Or.inl zg_285) dX3_works_42 (fun r9 => ?_)
      refine r_getI (TX := TX10) zc10 (by decide) rfl (Or.inr ⟨_, zn_215⟩) dX3_works_45 (fun v10 => ?_)
      refine aj_aload_n (0) dX3_works_48 rfl rfl ?_
      refine rV_IM (as := []) (c_X3_taken w S _ _) mv_X3_taken rfl zg_698 (by decide) (Nat.le_of_ble_eq_true rfl) dX3_works_49 (fun v11 M12 => ?_)
      refine rV_VM (as := [.int (v10), .int (v11)]) (c_X5_set w S _ _ _ _) mv_X5_set rfl zg_702 (by decide) (Nat.le_of_ble_eq_true rfl) dX3_works_52 (fun M13 => ?_)
      refine aj_aload_n (0) dX3_works_55 rfl rfl ?_
      refine aj_iconst (v := (0 : Int32)) dX3_works_56 (by decide) ?_
      refine aj_bipush (v := (24 : Int32)) dX3_works_57 (by decide) ?_
      refine rV_IM (as := [.int ((0 : Int32)), .int ((24 : Int32))]) (c_X3_isNumber w S _ _ _ _) mv_X3_isNumber rfl zg_703 (by decide) (Nat.le_of_ble_eq_true rfl) dX3_works_59 (fun v14 M15 => ?_)
      refine aj_if_ne (tgt := 67) dX3_works_62 (by decide) (fun h => ?_) (fun h => ?_)
      · refine aj_aload_n (0) dX3_works_67 rfl rfl ?_
        refine aj_getR (TX := TX3) zc3 (by decide) rfl (Or.inl zg_285) dX3_works_68 (fun r16 => ?_)
        refine aj_getR (TX := TX10) zc10 (by decide) rfl (Or.inr ⟨_, zn_223⟩) dX3_works_71 (fun r17 => ?_)
        refine aj_aload_n (0) dX3_works_74 rfl rfl ?_
        refine aj_getR (TX := TX3) zc3 (by decide) rfl (Or.inl zg_285) dX3_works_75 (fun r18 => ?_)
        refine r_getI (TX := TX10) zc10 (by decide) rfl (Or.inr ⟨_, zn_215⟩) dX3_works_78 (fun v19 => ?_)
        refine aj_aload_n (0) dX3_works_81 rfl rfl ?_
        refine rV_IM (as := []) (c_X3_taken w S _ _) mv_X3_taken rfl zg_698 (by decide) (Nat.le_of_ble_eq_true rfl) dX3_works_82 (fun v20 M21 => ?_)
        refine rV_VM (as := [.int (v19), .int (v20)]) (c_X5_set w S _ _ _ _) mv_X5_set rfl zg_702 (by decide) (Nat.le_of_ble_eq_true rfl) dX3_works_85 (fun M22 => ?_)
        refine aj_aload_n (0) dX3_works_88 rfl rfl ?_
        refine aj_iconst (v := (0 : Int32)) dX3_works_89 (by decide) ?_
        refine aj_bipush (v := (24 : Int32)) dX3_works_90 (by decide) ?_
        refine rV_IM (as := [.int ((0 : Int32)), .int ((24 : Int32))]) (c_X3_isNumber w S _ _ _ _) mv_X3_isNumber rfl zg_703 (by decide) (Nat.le_of_ble_eq_true rfl) dX3_works_92 (fun v23 M24 => ?_)
        refine aj_if_ne (tgt := 100) dX3_works_95 (by decide) (fun h => ?_) (fun h => ?_)
        · refine aj_aload_n (0) dX3_works_100 rfl rfl ?_
          refine aj_getR (TX := TX3) zc3 (by decide) rfl (Or.inl zg_285) dX3_works_101 (fun r25 => ?_)
          refine aj_getR (TX := TX10) zc10 (by decide) rfl (Or.inr ⟨_, zn_228⟩) dX3_works_104 (fun r26 => ?_)
          refine aj_aload_n (0) dX3_works_107 rfl rfl ?_
          refine aj_getR (TX := TX3) zc3 (by decide) rfl (Or.inl zg_285) dX3_works_108 (fun r27 => ?_)
          refine r_getI (TX := TX10) zc10 (by decide) rfl (Or.inr ⟨_, zn_215⟩) dX3_works_111 (fun v28 => ?_)
          refine aj_aload_n (0) dX3_works_114 rfl rfl ?_
          refine rV_IM (as := []) (c_X3_taken w S _ _) mv_X3_taken rfl zg_698 (by decide) (Nat.le_of_ble_eq_true rfl) dX3_works_115 (fun v29 M30 => ?_)
          refine rV_VM (as := [.int (v28), .int (v29)]) (c_X5_set w S _ _ _ _) mv_X5_set rfl zg_702 (by decide) (Nat.le_of_ble_eq_true rfl) dX3_works_118 (fun M31 => ?_)
          refine aj_aload_n (0) dX3_works_121 rfl rfl ?_
          refine aj_iconst (v := (1 : Int32)) dX3_works_122 (by decide) ?_
          refine aj_bipush (v := (9 : Int32)) dX3_works_123 (by decide) ?_
          refine rV_IM (as := [.int ((1 : Int32)), .int ((9 : Int32))]) (c_X3_isNumber w S _ _ _ _) mv_X3_isNumber rfl zg_703 (by decide) (Nat.le_of_ble_eq_true rfl) dX3_works_125 (fun v32 M33 => ?_)
          refine aj_if_ne (tgt := 133) dX3_works_128 (by decide) (fun h => ?_) (fun h => ?_)
          · refine aj_aload_n (0) dX3_works_133 rfl rfl ?_
            refine aj_getR (TX := TX3) zc3 (by decide) rfl (Or.inl zg_285) dX3_works_134 (fun r34 => ?_)
            refine aj_getR (TX := TX10) zc10 (by decide) rfl (Or.inr ⟨_, zn_233⟩) dX3_works_137 (fun r35 => ?_)
            refine aj_aload_n (0) dX3_works_140 rfl rfl ?_
            refine aj_getR (TX := TX3) zc3 (by decide) rfl (Or.inl zg_285) dX3_works_141 (fun r36 => ?_)
            refine r_getI (TX := TX10) zc10 (by decide) rfl (Or.inr ⟨_, zn_215⟩) dX3_works_144 (fun v37 => ?_)
            refine aj_aload_n (0) dX3_works_147 rfl rfl ?_
            refine rV_IM (as := []) (c_X3_taken w S _ _) mv_X3_taken rfl zg_698 (by decide) (Nat.le_of_ble_eq_true rfl) dX3_works_148 (fun v38 M39 => ?_)
            refine rV_VM (as := [.int (v37), .int (v38)]) (c_X5_set w S _ _ _ _) mv_X5_set rfl zg_702 (by decide) (Nat.le_of_ble_eq_true rfl) dX3_works_151 (fun M40 => ?_)
            refine aj_aload_n (0) dX3_works_154 rfl rfl ?_
            refine aj_getR (TX := TX3) zc3 (by decide) rfl (Or.inl zg_285) dX3_works_155 (fun r41 => ?_)
            refine aj_dup dX3_works_158 rfl ?_
            refine r_getI (TX := TX10) zc10 (by decide) rfl (Or.inr ⟨_, zn_215⟩) dX3_works_159 (fun v42 => ?_)
            refine aj_iconst (v := (1 : Int32)) dX3_works_162 (by decide) ?_
            refine aj_iadd dX3_works_163 ?_
            refine r_putI (TX := TX10) zc10 (by decide) rfl rfl rfl rfl (Or.inr ⟨_, zn_215⟩) dX3_works_164 (fun M43 => ?_)
            refine aj_iconst (v := (1 : Int32)) dX3_works_167 (by decide) ?_
            exact aj_iret dX3_works_168 rfl (by decide +kernel) rfl
          refine aj_iconst (v := (0 : Int32)) dX3_works_131 (by decide) ?_
          exact aj_iret dX3_works_132 rfl (by decide +kernel) rfl
        refine aj_iconst (v := (0 : Int32)) dX3_works_98 (by decide) ?_
        exact aj_iret dX3_works_99 rfl (by decide +kernel) rfl
      refine aj_iconst (v := (0 : Int32)) dX3_works_65 (by decide) ?_
      exact aj_iret dX3_works_66 rfl (by decide +kernel) rfl
    refine aj_iconst (v := (0 : Int32)) dX3_works_32 (by decide) ?_
    exact aj_iret dX3_works_33 rfl (by decide +kernel) rfl
  refine aj_aload_n (0) dX3_works_11 rfl rfl ?_
  refine aj_iconst (v := (2 : Int32)) dX3_works_12 (by decide) ?_
  refine rV_IM (as := [.int ((2 : Int32))]) (c_X3_fails w S _ _ _) mv_X3_fails rfl zg_673 (by decide) (Nat.le_of_ble_eq_true rfl) dX3_works_13 (fun v44 M45 => ?_)
  refine r_bo (fun hn => ?_)
  exact aj_iret dX3_works_16 rfl hn rfl
def gX3_line (S : List (Nat × Nat)) (p0 : Nat) (M : zM) : Option (Int32 × zM) := zgR S M (p0) 3 10 0 (fun r1 => zgI S M (r1) 9 7 5 (fun v2 => (if v2 = (3 : Int32) then zgR S M (p0) 3 10 0 (fun r3 => zgI S M (r3) 9 7 6 (fun v4 => (if v4 = (0 : Int32) then zrc S (p0) 3 10 (zb2 (gX3_trades S (p0) M) (fun v6 M7 => (if v6 = 0 then some ((0 : Int32), M7) else zrc S (p0) 3 10 (zb2 (gX3_ends S (p0) M7) (fun v8 M9 => (if v8 = 0 then some ((0 : Int32), M9) else some ((1 : Int32), M9))))))) else (if v4 = (1 : Int32) then zrc S (p0) 3 10 (zb2 (gX3_turns S (p0) M) (fun v11 M12 => (if v11 = 0 then some ((0 : Int32), M12) else zrc S (p0) 3 10 (zb2 (gX3_ends S (p0) M12) (fun v13 M14 => (if v13 = 0 then some ((0 : Int32), M14) else some ((1 : Int32), M14))))))) else (if v4 = (2 : Int32) then zrc S (p0) 3 10 (zb2 (gX3_claims S (p0) M) (fun v16 M17 => (if v16 = 0 then some ((0 : Int32), M17) else zrc S (p0) 3 10 (zb2 (gX3_ends S (p0) M17) (fun v18 M19 => (if v18 = 0 then some ((0 : Int32), M19) else some ((1 : Int32), M19))))))) else (if v4 = (3 : Int32) then zrc S (p0) 3 10 (zb2 (gX3_works S (p0) M) (fun v21 M22 => (if v21 = 0 then some ((0 : Int32), M22) else zrc S (p0) 3 10 (zb2 (gX3_ends S (p0) M22) (fun v23 M24 => (if v23 = 0 then some ((0 : Int32), M24) else some ((1 : Int32), M24))))))) else (if v4 = (4 : Int32) then zrc S (p0) 3 10 (zb2 (gX3_slips S (p0) M) (fun v26 M27 => (if v26 = 0 then some ((0 : Int32), M27) else zrc S (p0) 3 10 (zb2 (gX3_ends S (p0) M27) (fun v28 M29 => (if v28 = 0 then some ((0 : Int32), M29) else some ((1 : Int32), M29))))))) else (if v4 = (5 : Int32) then zrc S (p0) 3 10 (zb2 (gX3_seeds S (p0) M) (fun v31 M32 => (if v31 = 0 then some ((0 : Int32), M32) else zrc S (p0) 3 10 (zb2 (gX3_ends S (p0) M32) (fun v33 M34 => (if v33 = 0 then some ((0 : Int32), M34) else some ((1 : Int32), M34))))))) else (if v4 = (6 : Int32) then zrc S (p0) 3 10 (zb2 (gX3_laws S (p0) M) (fun v36 M37 => (if v36 = 0 then some ((0 : Int32), M37) else zrc S (p0) 3 10 (zb2 (gX3_ends S (p0) M37) (fun v38 M39 => (if v38 = 0 then some ((0 : Int32), M39) else some ((1 : Int32), M39))))))) else zrc S (p0) 3 10 (zb2 (gX3_fails S (p0) ((1 : Int32)) M) (fun v40 M41 => zbo (v40) (some (v40, M41))))))))))))) else zrc S (p0) 3 10 (zb2 (gX3_fails S (p0) ((1 : Int32)) M) (fun v42 M43 => zbo (v42) (some (v42, M43)))))))
set_option maxHeartbeats 4000000 in
set_option maxRecDepth 100000 in
theorem c_X3_line (w : zWd) (S : List (Nat × Nat)) (p0 : Nat) (M : zM) : CT (zfIM S) w 6 mX3_line [.ref (p0)] (S, M) (gX3_line S p0 M) := by
  refine CT.of (by decide) (Nat.le_of_ble_eq_true rfl) ?_
  show AJ _ _ _ _ 0 [(0, .ref (p0))] [] _ _
  unfold gX3_line
  refine aj_aload_n (0) dX3_line_0 rfl rfl ?_
  refine aj_getR (TX := TX3) zc3 (by decide) rfl (Or.inl zg_284) dX3_line_1 (fun r1 => ?_)
  refine r_getI (TX := TX9) zc9 (by decide) rfl (Or.inr ⟨_, zn_120⟩) dX3_line_4 (fun v2 => ?_)
  refine aj_iconst (v := (3 : Int32)) dX3_line_7 (by decide) ?_
  refine aj_icmp_eq (tgt := 17) dX3_line_8 (by decide) (fun h => ?_) (fun h => ?_)
  · refine aj_aload_n (0) dX3_line_17 rfl rfl ?_
    refine aj_getR (TX := TX3) zc3 (by decide) rfl (Or.inl zg_284) dX3_line_18 (fun r3 => ?_)
    refine r_getI (TX := TX9) zc9 (by decide) rfl (Or.inr ⟨_, zn_122⟩) dX3_line_21 (fun v4 => ?_)
    refine aj_ite (fun h => ?_) (fun h5 => ?_)
    · have h9 : v4 = (0 : Int32) := h
      refine aj_tsw (tgt := 68) (off := 44) dX3_line_24 (by rw [h9]; decide) (by rw [h9]; decide) (by rw [h9]; decide +kernel) (by decide) ?_
      refine aj_aload_n (0) dX3_line_68 rfl rfl ?_
      refine rV_IM (as := []) (c_X3_trades w S _ _) mv_X3_trades rfl zg_677 (by decide) (Nat.le_of_ble_eq_true rfl) dX3_line_69 (fun v6 M7 => ?_)
      refine aj_if_eq (tgt := 86) dX3_line_72 (by decide) (fun h => ?_) (fun h => ?_)
      · refine aj_iconst (v := (0 : Int32)) dX3_line_86 (by decide) ?_
        exact aj_iret dX3_line_87 rfl (by decide +kernel) rfl
      refine aj_aload_n (0) dX3_line_75 rfl rfl ?_
      refine rV_IM (as := []) (c_X3_ends w S _ _) mv_X3_ends rfl zg_707 (by decide) (Nat.le_of_ble_eq_true rfl) dX3_line_76 (fun v8 M9 => ?_)
      refine aj_if_eq (tgt := 86) dX3_line_79 (by decide) (fun h => ?_) (fun h => ?_)
      · refine aj_iconst (v := (0 : Int32)) dX3_line_86 (by decide) ?_
        exact aj_iret dX3_line_87 rfl (by decide +kernel) rfl
      refine aj_iconst (v := (1 : Int32)) dX3_line_82 (by decide) ?_
      refine aj_goto (tgt := 87) dX3_line_83 (by decide) ?_
      exact aj_iret dX3_line_87 rfl (by decide +kernel) rfl
    refine aj_ite (fun h => ?_) (fun h10 => ?_)
    · have h9 : v4 = (1 : Int32) := h
      refine aj_tsw (tgt := 88) (off := 64) dX3_line_24 (by rw [h9]; decide) (by rw [h9]; decide) (by rw [h9]; decide +kernel) (by decide) ?_
      refine aj_aload_n (0) dX3_line_88 rfl rfl ?_
      refine rV_IM (as := []) (c_X3_turns w S _ _) mv_X3_turns rfl zg_711 (by decide) (Nat.le_of_ble_eq_true rfl) dX3_line_89 (fun v11 M12 => ?_)
      refine aj_if_eq (tgt := 106) dX3_line_92 (by decide) (fun h => ?_) (fun h => ?_)
      · refine aj_iconst (v := (0 : Int32)) dX3_line_106 (by decide) ?_
        exact aj_iret dX3_line_107 rfl (by decide +kernel) rfl
      refine aj_aload_n (0) dX3_line_95 rfl rfl ?_
      refine rV_IM (as := []) (c_X3_ends w S _ _) mv_X3_ends rfl zg_707 (by decide) (Nat.le_of_ble_eq_true rfl) dX3_line_96 (fun v13 M14 => ?_)
      refine aj_if_eq (tgt := 106) dX3_line_99 (by decide) (fun h => ?_) (fun h => ?_)
      · refine aj_iconst (v := (0 : Int32)) dX3_line_106 (by decide) ?_
        exact aj_iret dX3_line_107 rfl (by decide +kernel) rfl
      refine aj_iconst (v := (1 : Int32)) dX3_line_102 (by decide) ?_
      refine aj_goto (tgt := 107) dX3_line_103 (by decide) ?_
      exact aj_iret dX3_line_107 rfl (by decide +kernel) rfl
    refine aj_ite (fun h => ?_) (fun h15 => ?_)
    · have h9 : v4 = (2 : Int32) := h
      refine aj_tsw (tgt := 108) (off := 84) dX3_line_24 (by rw [h9]; decide) (by rw [h9]; decide) (by rw [h9]; decide +kernel) (by decide) ?_
      refine aj_aload_n (0) dX3_line_108 rfl rfl ?_
      refine rV_IM (as := []) (c_X3_claims w S _ _) mv_X3_claims rfl zg_719 (by decide) (Nat.le_of_ble_eq_true rfl) dX3_line_109 (fun v16 M17 => ?_)
      refine aj_if_eq (tgt := 126) dX3_line_112 (by decide) (fun h => ?_) (fun h => ?_)
      · refine aj_iconst (v := (0 : Int32)) dX3_line_126 (by decide) ?_
        exact aj_iret dX3_line_127 rfl (by decide +kernel) rfl
      refine aj_aload_n (0) dX3_line_115 rfl rfl ?_
      refine rV_IM (as := []) (c_X3_ends w S _ _) mv_X3_ends rfl zg_707 (by decide) (Nat.le_of_ble_eq_true rfl) dX3_line_116 (fun v18 M19 => ?_)
      refine aj_if_eq (tgt := 126) dX3_line_119 (by decide) (fun h => ?_) (fun h => ?_)
      · refine aj_iconst (v := (0 : Int32)) dX3_line_126 (by decide) ?_
        exact aj_iret dX3_line_127 rfl (by decide +kernel) rfl
      refine aj_iconst (v := (1 : Int32)) dX3_line_122 (by decide) ?_
      refine aj_goto (tgt := 127) dX3_line_123 (by decide) ?_
      exact aj_iret dX3_line_127 rfl (by decide +kernel) rfl
    refine aj_ite (fun h => ?_) (fun h20 => ?_)
    · have h9 : v4 = (3 : Int32) := h
      refine aj_tsw (tgt := 128) (off := 104) dX3_line_24 (by rw [h9]; decide) (by rw [h9]; decide) (by rw [h9]; decide +kernel) (by decide) ?_
      refine aj_aload_n (0) dX3_line_128 rfl rfl ?_
      refine rV_IM (as := []) (c_X3_works w S _ _) mv_X3_works rfl zg_727 (by decide) (Nat.le_of_ble_eq_true rfl) dX3_line_129 (fun v21 M22 => ?_)
      refine aj_if_eq (tgt := 146) dX3_line_132 (by decide) (fun h => ?_) (fun h => ?_)
      · refine aj_iconst (v := (0 : Int32)) dX3_line_146 (by decide) ?_
        exact aj_iret dX3_line_147 rfl (by decide +kernel) rfl
      refine aj_aload_n (0) dX3_line_135 rfl rfl ?_
      refine rV_IM (as := []) (c_X3_ends w S _ _) mv_X3_ends rfl zg_707 (by decide) (Nat.le_of_ble_eq_true rfl) dX3_line_136 (fun v23 M24 => ?_)
      refine aj_if_eq (tgt := 146) dX3_line_139 (by decide) (fun h => ?_) (fun h => ?_)
      · refine aj_iconst (v := (0 : Int32)) dX3_line_146 (by decide) ?_
        exact aj_iret dX3_line_147 rfl (by decide +kernel) rfl
      refine aj_iconst (v := (1 : Int32)) dX3_line_142 (by decide) ?_
      refine aj_goto (tgt := 147) dX3_line_143 (by decide) ?_
      exact aj_iret dX3_line_147 rfl (by decide +kernel) rfl
    refine aj_ite (fun h => ?_) (fun h25 => ?_)
    · have h9 : v4 = (4 : Int32) := h
      refine aj_tsw (tgt := 148) (off := 124) dX3_line_24 (by rw [h9]; decide) (by rw [h9]; decide) (by rw [h9]; decide +kernel) (by decide) ?_
      refine aj_aload_n (0) dX3_line_148 rfl rfl ?_
      refine rV_IM (as := []) (c_X3_slips w S _ _) mv_X3_slips rfl zg_731 (by decide) (Nat.le_of_ble_eq_true rfl) dX3_line_149 (fun v26 M27 => ?_)
      refine aj_if_eq (tgt := 166) dX3_line_152 (by decide) (fun h => ?_) (fun h => ?_)
      · refine aj_iconst (v := (0 : Int32)) dX3_line_166 (by decide) ?_
        exact aj_iret dX3_line_167 rfl (by decide +kernel) rfl
      refine aj_aload_n (0) dX3_line_155 rfl rfl ?_
      refine rV_IM (as := []) (c_X3_ends w S _ _) mv_X3_ends rfl zg_707 (by decide) (Nat.le_of_ble_eq_true rfl) dX3_line_156 (fun v28 M29 => ?_)
      refine aj_if_eq (tgt := 166) dX3_line_159 (by decide) (fun h => ?_) (fun h => ?_)
      · refine aj_iconst (v := (0 : Int32)) dX3_line_166 (by decide) ?_
        exact aj_iret dX3_line_167 rfl (by decide +kernel) rfl
      refine aj_iconst (v := (1 : Int32)) dX3_line_162 (by decide) ?_
      refine aj_goto (tgt := 167) dX3_line_163 (by decide) ?_
      exact aj_iret dX3_line_167 rfl (by decide +kernel) rfl
    refine aj_ite (fun h => ?_) (fun h30 => ?_)
    · have h9 : v4 = (5 : Int32) := h
      refine aj_tsw (tgt := 168) (off := 144) dX3_line_24 (by rw [h9]; decide) (by rw [h9]; decide) (by rw [h9]; decide +kernel) (by decide) ?_
      refine aj_aload_n (0) dX3_line_168 rfl rfl ?_
      refine rV_IM (as := []) (c_X3_seeds w S _ _) mv_X3_seeds rfl zg_735 (by decide) (Nat.le_of_ble_eq_true rfl) dX3_line_169 (fun v31 M32 => ?_)
      refine aj_if_eq (tgt := 186) dX3_line_172 (by decide) (fun h => ?_) (fun h => ?_)
      · refine aj_iconst (v := (0 : Int32)) dX3_line_186 (by decide) ?_
        exact aj_iret dX3_line_187 rfl (by decide +kernel) rfl
      refine aj_aload_n (0) dX3_line_175 rfl rfl ?_
      refine rV_IM (as := []) (c_X3_ends w S _ _) mv_X3_ends rfl zg_707 (by decide) (Nat.le_of_ble_eq_true rfl) dX3_line_176 (fun v33 M34 => ?_)
      refine aj_if_eq (tgt := 186) dX3_line_179 (by decide) (fun h => ?_) (fun h => ?_)
      · refine aj_iconst (v := (0 : Int32)) dX3_line_186 (by decide) ?_
        exact aj_iret dX3_line_187 rfl (by decide +kernel) rfl
      refine aj_iconst (v := (1 : Int32)) dX3_line_182 (by decide) ?_
      refine aj_goto (tgt := 187) dX3_line_183 (by decide) ?_
      exact aj_iret dX3_line_187 rfl (by decide +kernel) rfl
    refine aj_ite (fun h => ?_) (fun h35 => ?_)
    · have h9 : v4 = (6 : Int32) := h
      refine aj_tsw (tgt := 188) (off := 164) dX3_line_24 (by rw [h9]; decide) (by rw [h9]; decide) (by rw [h9]; decide +kernel) (by decide) ?_
      refine aj_aload_n (0) dX3_line_188 rfl rfl ?_
      refine rV_IM (as := []) (c_X3_laws w S _ _) mv_X3_laws rfl zg_740 (by decide) (Nat.le_of_ble_eq_true rfl) dX3_line_189 (fun v36 M37 => ?_)
      refine aj_if_eq (tgt := 206) dX3_line_192 (by decide) (fun h => ?_) (fun h => ?_)
      · refine aj_iconst (v := (0 : Int32)) dX3_line_206 (by decide) ?_
        exact aj_iret dX3_line_207 rfl (by decide +kernel) rfl
      refine aj_aload_n (0) dX3_line_195 rfl rfl ?_
      refine rV_IM (as := []) (c_X3_ends w S _ _) mv_X3_ends rfl zg_707 (by decide) (Nat.le_of_ble_eq_true rfl) dX3_line_196 (fun v38 M39 => ?_)
      refine aj_if_eq (tgt := 206) dX3_line_199 (by decide) (fun h => ?_) (fun h => ?_)
      · refine aj_iconst (v := (0 : Int32)) dX3_line_206 (by decide) ?_
        exact aj_iret dX3_line_207 rfl (by decide +kernel) rfl
      refine aj_iconst (v := (1 : Int32)) dX3_line_202 (by decide) ?_
      refine aj_goto (tgt := 207) dX3_line_203 (by decide) ?_
      exact aj_iret dX3_line_207 rfl (by decide +kernel) rfl
    refine aj_tswO (tgt := 208) dX3_line_24 (by have a0 := lv_neT (k := (0 : Int32)) h5 (a := 0) (by decide); have a1 := lv_neT (k := (1 : Int32)) h10 (a := 1) (by decide); have a2 := lv_neT (k := (2 : Int32)) h15 (a := 2) (by decide); have a3 := lv_neT (k := (3 : Int32)) h20 (a := 3) (by decide); have a4 := lv_neT (k := (4 : Int32)) h25 (a := 4) (by decide); have a5 := lv_neT (k := (5 : Int32)) h30 (a := 5) (by decide); have a6 := lv_neT (k := (6 : Int32)) h35 (a := 6) (by decide); omega) (by decide) ?_
    refine aj_aload_n (0) dX3_line_208 rfl rfl ?_
    refine aj_iconst (v := (1 : Int32)) dX3_line_209 (by decide) ?_
    refine rV_IM (as := [.int ((1 : Int32))]) (c_X3_fails w S _ _ _) mv_X3_fails rfl zg_673 (by decide) (Nat.le_of_ble_eq_true rfl) dX3_line_210 (fun v40 M41 => ?_)
    refine r_bo (fun hn => ?_)
    exact aj_iret dX3_line_213 rfl hn rfl
  refine aj_aload_n (0) dX3_line_11 rfl rfl ?_
  refine aj_iconst (v := (1 : Int32)) dX3_line_12 (by decide) ?_
  refine rV_IM (as := [.int ((1 : Int32))]) (c_X3_fails w S _ _ _) mv_X3_fails rfl zg_673 (by decide) (Nat.le_of_ble_eq_true rfl) dX3_line_13 (fun v42 M43 => ?_)
  refine r_bo (fun hn => ?_)
  exact aj_iret dX3_line_16 rfl hn rfl
def gX3_reads_44 (S : List (Nat × Nat)) : Nat → Nat → Int32 → Int32 → zM → Option (Int32 × zM)
  | 0 => fun _ _ _ _ => none
  | n + 1 => fun p0 x2 x4 M => (if x2 ≤ x4 then some ((1 : Int32), M) else zgR S M (p0) 3 10 0 (fun r1 => zgI S M (r1) 9 7 5 (fun v2 => (if v2 = 0 then some ((1 : Int32), M) else zrc S (p0) 3 10 (zb2 (gX3_line S (p0) M) (fun v3 M4 => (if v3 = 0 then some ((0 : Int32), M4) else zgR S M4 (p0) 3 10 1 (fun r5 => zgI S M4 (r5) 10 18 0 (fun v6 => zpI S M4 (r5) 10 18 0 ((v6 + (1 : Int32))) (fun M7 => (gX3_reads_44 S   n) (p0) (x2) ((x4 + (1 : Int32))) M7))))))))))
set_option maxHeartbeats 4000000 in
set_option maxRecDepth 100000 in
theorem t_X3_reads_44 (w : zWd) (S : List (Nat × Nat)) (fu : Nat) : ∀ (p0 : Nat) (x2 : Int32) (x4 : Int32) (M : zM), AJ (zfIM S) w 7 mX3_reads 44 [(0, .ref (p0)), (2, .int (x2)), (4, .int (x4))] [] (S, M) (gX3_reads_44 S fu p0 x2 x4 M) := by
  induction fu with
  | zero => intro p0 x2 x4 M; exact AJ.none
  | succ n ih =>
    intro p0 x2 x4 M
    unfold gX3_reads_44
    refine aj_iload (2) dX3_reads_44 rfl ?_
    refine aj_iload_n (1) dX3_reads_46 rfl rfl ?_
    refine aj_icmp_ge (tgt := 88) dX3_reads_47 (by decide) (fun h => ?_) (fun h => ?_)
    · refine aj_iconst (v := (1 : Int32)) dX3_reads_88 (by decide) ?_
      exact aj_iret dX3_reads_89 rfl (by decide +kernel) rfl
    refine aj_aload_n (0) dX3_reads_50 rfl rfl ?_
    refine aj_getR (TX := TX3) zc3 (by decide) rfl (Or.inl zg_284) dX3_reads_51 (fun r1 => ?_)
    refine r_getI (TX := TX9) zc9 (by decide) rfl (Or.inr ⟨_, zn_120⟩) dX3_reads_54 (fun v2 => ?_)
    refine aj_if_eq (tgt := 88) dX3_reads_57 (by decide) (fun h => ?_) (fun h => ?_)
    · refine aj_iconst (v := (1 : Int32)) dX3_reads_88 (by decide) ?_
      exact aj_iret dX3_reads_89 rfl (by decide +kernel) rfl
    refine aj_aload_n (0) dX3_reads_60 rfl rfl ?_
    refine rV_IM (as := []) (c_X3_line w S _ _) mv_X3_line rfl zg_669 (by decide) (Nat.le_of_ble_eq_true rfl) dX3_reads_61 (fun v3 M4 => ?_)
    refine aj_if_ne (tgt := 69) dX3_reads_64 (by decide) (fun h => ?_) (fun h => ?_)
    · refine aj_aload_n (0) dX3_reads_69 rfl rfl ?_
      refine aj_getR (TX := TX3) zc3 (by decide) rfl (Or.inl zg_285) dX3_reads_70 (fun r5 => ?_)
      refine aj_dup dX3_reads_73 rfl ?_
      refine r_getI (TX := TX10) zc10 (by decide) rfl (Or.inr ⟨_, zn_181⟩) dX3_reads_74 (fun v6 => ?_)
      refine aj_iconst (v := (1 : Int32)) dX3_reads_77 (by decide) ?_
      refine aj_iadd dX3_reads_78 ?_
      refine r_putI (TX := TX10) zc10 (by decide) rfl rfl rfl rfl (Or.inr ⟨_, zn_181⟩) dX3_reads_79 (fun M7 => ?_)
      refine aj_iinc (j := 2) (v := (x4 + (1 : Int32))) (ls2 := [(4, .int ((x4 + (1 : Int32)))), (0, .ref (p0)), (2, .int (x2))]) dX3_reads_82 rfl rfl (Nat.le_of_ble_eq_true rfl) rfl ?_
      refine aj_goto (tgt := 44) dX3_reads_85 (by decide) ?_
      refine AJ.sub [1, 2, 0] rfl ?_
      exact ih (p0) (x2) ((x4 + (1 : Int32))) M7
    refine aj_iconst (v := (0 : Int32)) dX3_reads_67 (by decide) ?_
    exact aj_iret dX3_reads_68 rfl (by decide +kernel) rfl
def gX3_reads (S : List (Nat × Nat)) (p0 : Nat) (p1 : Nat) (x2 : Int32) (p3 : Nat) (M : zM) : Option (Int32 × zM) := zpR S M (p0) 3 10 1 (some (p3)) (fun M1 => zgR S M1 (p0) 3 10 1 (fun r2 => zrc S (r2) 10 18 ((gX10_clear S (r2) M1).bind (fun M3 => zpI S M3 (p0) 3 10 2 ((0 : Int32)) (fun M4 => zpI S M4 (p0) 3 10 4 ((0 : Int32)) (fun M5 => zpI S M5 (p0) 3 10 5 ((0 : Int32)) (fun M6 => zpI S M6 (p0) 3 10 9 ((0 : Int32)) (fun M7 => zgR S M7 (p0) 3 10 0 (fun r8 => zrc S (r8) 9 7 ((gX9_begin S (r8) (p1) (x2) M7).bind (fun M9 => gX3_reads_44 S zfu (p0) (x2) ((0 : Int32)) M9)))))))))))
set_option maxHeartbeats 4000000 in
set_option maxRecDepth 100000 in
theorem c_X3_reads (w : zWd) (S : List (Nat × Nat)) (p0 : Nat) (p1 : Nat) (x2 : Int32) (p3 : Nat) (M : zM) : CT (zfIM S) w 7 mX3_reads [.ref (p0), .ref (p1), .int (x2), .ref (p3)] (S, M) (gX3_reads S p0 p1 x2 p3 M) := by
  refine CT.of (by decide) (Nat.le_of_ble_eq_true rfl) ?_
  show AJ _ _ _ _ 0 [(0, .ref (p0)), (1, .ref (p1)), (2, .int (x2)), (3, .ref (p3))] [] _ _
  unfold gX3_reads
  refine aj_aload_n (0) dX3_reads_0 rfl rfl ?_
  refine aj_aload_n (3) dX3_reads_1 rfl rfl ?_
  refine r_putR (TX := TX3) zc3 (by decide) rfl (Or.inl rfl) (Or.inl zg_285) dX3_reads_2 (fun M1 => ?_)
  refine aj_aload_n (0) dX3_reads_5 rfl rfl ?_
  refine aj_getR (TX := TX3) zc3 (by decide) rfl (Or.inl zg_285) dX3_reads_6 (fun r2 => ?_)
  refine rV_VM (as := []) (c_X10_clear w S _ _) mv_X10_clear rfl zg_620 (by decide) (Nat.le_of_ble_eq_true rfl) dX3_reads_9 (fun M3 => ?_)
  refine aj_aload_n (0) dX3_reads_12 rfl rfl ?_
  refine aj_iconst (v := (0 : Int32)) dX3_reads_13 (by decide) ?_
  refine r_putI (TX := TX3) zc3 (by decide) rfl rfl rfl rfl (Or.inl zg_286) dX3_reads_14 (fun M4 => ?_)
  refine aj_aload_n (0) dX3_reads_17 rfl rfl ?_
  refine aj_iconst (v := (0 : Int32)) dX3_reads_18 (by decide) ?_
  refine r_putI (TX := TX3) zc3 (by decide) rfl rfl (by decide +kernel) rfl (Or.inl zg_290) dX3_reads_19 (fun M5 => ?_)
  refine aj_aload_n (0) dX3_reads_22 rfl rfl ?_
  refine aj_iconst (v := (0 : Int32)) dX3_reads_23 (by decide) ?_
  refine r_putI (TX := TX3) zc3 (by decide) rfl rfl (by decide +kernel) rfl (Or.inl zg_291) dX3_reads_24 (fun M6 => ?_)
  refine aj_aload_n (0) dX3_reads_27 rfl rfl ?_
  refine aj_iconst (v := (0 : Int32)) dX3_reads_28 (by decide) ?_
  refine r_putI (TX := TX3) zc3 (by decide) rfl rfl rfl rfl (Or.inl zg_295) dX3_reads_29 (fun M7 => ?_)
  refine aj_aload_n (0) dX3_reads_32 rfl rfl ?_
  refine aj_getR (TX := TX3) zc3 (by decide) rfl (Or.inl zg_284) dX3_reads_33 (fun r8 => ?_)
  refine aj_aload_n (1) dX3_reads_36 rfl rfl ?_
  refine aj_iload_n (2) dX3_reads_37 rfl rfl ?_
  refine rV_VM (as := [.ref (p1), .int (x2)]) (c_X9_begin w S _ _ _ _) mv_X9_begin rfl zg_632 (by decide) (Nat.le_of_ble_eq_true rfl) dX3_reads_38 (fun M9 => ?_)
  refine aj_iconst (v := (0 : Int32)) dX3_reads_41 (by decide) ?_
  refine aj_istore (ls2 := [(4, .int ((0 : Int32))), (0, .ref (p0)), (1, .ref (p1)), (2, .int (x2)), (3, .ref (p3))]) dX3_reads_42 (Nat.le_of_ble_eq_true rfl) rfl ?_
  refine AJ.sub [1, 3, 0] rfl ?_
  exact t_X3_reads_44 w S zfu (p0) (x2) ((0 : Int32)) M9
