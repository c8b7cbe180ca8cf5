/-! DayOpeners$Tokens: functions of its methods and their contracts: written by wip/whole/gen/dec.py -/
def gX9_init_39 : Nat → Nat → Int32 → Int32 → Int32 → Int32 → List (Nat × Nat) → zM → Option zH
  | 0 => fun _ _ _ _ _ _ _ => none
  | n + 1 => fun p0 x1 x2 x3 x4 S M => zsN zT1 (fun v1 => (if v1 ≤ x4 then some (S, M) else zsC zT1 (x4) (fun v2 => (if v2 = (32 : Int32) then zgR S M (p0) 9 7 0 (fun r5 => zrc S (r5) 5 1 ((gX5_set S (r5) ((x1 + (1 : Int32))) ((0 : Int32)) M).bind (fun M6 => (gX9_init_39   n) (p0) ((x1 + (1 : Int32))) ((0 : Int32)) ((25 : Int32)) ((x4 + (1 : Int32))) S M6))) else zgR S M (p0) 9 7 0 (fun r3 => zrc S (r3) 5 1 ((gX5_set S (r3) (x1) ((x2 ||| (((v2 - (97 : Int32)) + (1 : Int32)) <<< (x3 &&& 31)))) M).bind (fun M4 => (gX9_init_39   n) (p0) (x1) ((x2 ||| (((v2 - (97 : Int32)) + (1 : Int32)) <<< (x3 &&& 31)))) ((x3 + (-5 : Int32))) ((x4 + (1 : Int32))) S M4)))))))
set_option maxHeartbeats 4000000 in
set_option maxRecDepth 100000 in
theorem t_X9_init_39 (w : zWd) (hz : zSZ w) (hg : w.2.2.2.2.2 = 0) (fu : Nat) : ∀ (p0 : Nat) (x1 : Int32) (x2 : Int32) (x3 : Int32) (x4 : Int32) (S : List (Nat × Nat)) (M : zM), AJ zfC w 5 mX9_init 39 [(0, .ref (p0)), (1, .int (x1)), (2, .int (x2)), (3, .int (x3)), (4, .int (x4))] [] (S, M) (gX9_init_39 fu p0 x1 x2 x3 x4 S M) := by
  induction fu with
  | zero => intro p0 x1 x2 x3 x4 S M; exact AJ.none
  | succ n ih =>
    intro p0 x1 x2 x3 x4 S M
    unfold gX9_init_39
    refine aj_iload (4) dX9_init_39 rfl ?_
    refine r_slen (Ws := zT1) (fun s h => (hz s h).2.1) zg_62 (by decide) (Nat.le_of_ble_eq_true rfl) dX9_init_41 dX9_init_43 (fun v1 => ?_)
    refine aj_icmp_ge (tgt := 106) dX9_init_46 (by decide) (fun h => ?_) (fun h => ?_)
    · exact aj_vret dX9_init_106 rfl rfl
    refine r_chL (Ws := zT1) (4) (fun s h => (hz s h).2.1) zT1_ok zg_72 (by decide) (Nat.le_of_ble_eq_true rfl) dX9_init_49 dX9_init_51 rfl dX9_init_53 (fun v2 => ?_)
    refine aj_istore (ls2 := [(5, .int (v2)), (0, .ref (p0)), (1, .int (x1)), (2, .int (x2)), (3, .int (x3)), (4, .int (x4))]) dX9_init_56 (Nat.le_of_ble_eq_true rfl) rfl ?_
    refine aj_iload (0) dX9_init_58 rfl ?_
    refine aj_bipush (v := (32 : Int32)) dX9_init_60 (by decide) ?_
    refine aj_icmp_ne (tgt := 76) dX9_init_62 (by decide) (fun h => ?_) (fun h => ?_)
    · refine aj_iload_n (3) dX9_init_76 rfl rfl ?_
      refine aj_iload (0) dX9_init_77 rfl ?_
      refine aj_bipush (v := (97 : Int32)) dX9_init_79 (by decide) ?_
      refine aj_isub dX9_init_81 ?_
      refine aj_iconst (v := (1 : Int32)) dX9_init_82 (by decide) ?_
      refine aj_iadd dX9_init_83 ?_
      refine aj_iload_n (4) dX9_init_84 rfl rfl ?_
      refine aj_ishl dX9_init_85 ?_
      refine aj_ior dX9_init_86 ?_
      refine aj_istore_n (ls2 := [(2, .int ((x2 ||| (((v2 - (97 : Int32)) + (1 : Int32)) <<< (x3 &&& 31))))), (5, .int (v2)), (0, .ref (p0)), (1, .int (x1)), (3, .int (x3)), (4, .int (x4))]) dX9_init_87 rfl (Nat.le_of_ble_eq_true rfl) rfl ?_
      refine aj_iinc (j := 4) (v := (x3 + (-5 : Int32))) (ls2 := [(3, .int ((x3 + (-5 : Int32)))), (2, .int ((x2 ||| (((v2 - (97 : Int32)) + (1 : Int32)) <<< (x3 &&& 31))))), (5, .int (v2)), (0, .ref (p0)), (1, .int (x1)), (4, .int (x4))]) dX9_init_88 rfl rfl (Nat.le_of_ble_eq_true rfl) rfl ?_
      refine aj_aload_n (3) dX9_init_91 rfl rfl ?_
      refine aj_getR (TX := TX9) zc9 (by decide) rfl (Or.inl zg_114) dX9_init_92 (fun r3 => ?_)
      refine aj_iload_n (4) dX9_init_95 rfl rfl ?_
      refine aj_iload_n (1) dX9_init_96 rfl rfl ?_
      refine rV_VM (as := [.int (x1), .int ((x2 ||| (((v2 - (97 : Int32)) + (1 : Int32)) <<< (x3 &&& 31))))]) (c_X5_set w S _ _ _ _) mv_X5_set rfl zg_110 (by decide) (Nat.le_of_ble_eq_true rfl) dX9_init_97 (fun M4 => ?_)
      refine aj_iinc (j := 5) (v := (x4 + (1 : Int32))) (ls2 := [(4, .int ((x4 + (1 : Int32)))), (3, .int ((x3 + (-5 : Int32)))), (2, .int ((x2 ||| (((v2 - (97 : Int32)) + (1 : Int32)) <<< (x3 &&& 31))))), (5, .int (v2)), (0, .ref (p0)), (1, .int (x1))]) dX9_init_100 rfl rfl (Nat.le_of_ble_eq_true rfl) rfl ?_
      refine aj_goto (tgt := 39) dX9_init_103 (by decide) ?_
      refine AJ.sub [4, 5, 2, 1, 0] rfl ?_
      exact ih (p0) (x1) ((x2 ||| (((v2 - (97 : Int32)) + (1 : Int32)) <<< (x3 &&& 31)))) ((x3 + (-5 : Int32))) ((x4 + (1 : Int32))) S M4
    refine aj_iinc (j := 2) (v := (x1 + (1 : Int32))) (ls2 := [(1, .int ((x1 + (1 : Int32)))), (5, .int (v2)), (0, .ref (p0)), (2, .int (x2)), (3, .int (x3)), (4, .int (x4))]) dX9_init_65 rfl rfl (Nat.le_of_ble_eq_true rfl) rfl ?_
    refine aj_iconst (v := (0 : Int32)) dX9_init_68 (by decide) ?_
    refine aj_istore_n (ls2 := [(2, .int ((0 : Int32))), (1, .int ((x1 + (1 : Int32)))), (5, .int (v2)), (0, .ref (p0)), (3, .int (x3)), (4, .int (x4))]) dX9_init_69 rfl (Nat.le_of_ble_eq_true rfl) rfl ?_
    refine aj_bipush (v := (25 : Int32)) dX9_init_70 (by decide) ?_
    refine aj_istore_n (ls2 := [(3, .int ((25 : Int32))), (2, .int ((0 : Int32))), (1, .int ((x1 + (1 : Int32)))), (5, .int (v2)), (0, .ref (p0)), (4, .int (x4))]) dX9_init_72 rfl (Nat.le_of_ble_eq_true rfl) rfl ?_
    refine aj_goto (tgt := 91) dX9_init_73 (by decide) ?_
    refine aj_aload_n (4) dX9_init_91 rfl rfl ?_
    refine aj_getR (TX := TX9) zc9 (by decide) rfl (Or.inl zg_114) dX9_init_92 (fun r5 => ?_)
    refine aj_iload_n (2) dX9_init_95 rfl rfl ?_
    refine aj_iload_n (1) dX9_init_96 rfl rfl ?_
    refine rV_VM (as := [.int ((x1 + (1 : Int32))), .int ((0 : Int32))]) (c_X5_set w S _ _ _ _) mv_X5_set rfl zg_110 (by decide) (Nat.le_of_ble_eq_true rfl) dX9_init_97 (fun M6 => ?_)
    refine aj_iinc (j := 5) (v := (x4 + (1 : Int32))) (ls2 := [(4, .int ((x4 + (1 : Int32)))), (3, .int ((25 : Int32))), (2, .int ((0 : Int32))), (1, .int ((x1 + (1 : Int32)))), (5, .int (v2)), (0, .ref (p0))]) dX9_init_100 rfl rfl (Nat.le_of_ble_eq_true rfl) rfl ?_
    refine aj_goto (tgt := 39) dX9_init_103 (by decide) ?_
    refine AJ.sub [5, 3, 2, 1, 0] rfl ?_
    exact ih (p0) ((x1 + (1 : Int32))) ((0 : Int32)) ((25 : Int32)) ((x4 + (1 : Int32))) S M6
def gX9_init (p0 : Nat) (S : List (Nat × Nat)) (M : zM) : Option zH := znew S M 5 1 (fun S1 M2 r3 => zmk2 S1 (gX5_init (r3) ((20 : Int32)) S1 M2) (fun S4 M5 => zpR S4 M5 (p0) 9 7 0 (some (r3)) (fun M6 => znew S4 M6 5 1 (fun S7 M8 r9 => zmk2 S7 (gX5_init (r9) ((0 : Int32)) S7 M8) (fun S10 M11 => zpR S10 M11 (p0) 9 7 1 (some (r9)) (fun M12 => gX9_init_39 zfu (p0) ((0 : Int32)) ((0 : Int32)) ((25 : Int32)) ((0 : Int32)) S10 M12))))))
set_option maxHeartbeats 4000000 in
set_option maxRecDepth 100000 in
theorem c_X9_init (w : zWd) (hz : zSZ w) (hg : w.2.2.2.2.2 = 0) (p0 : Nat) (S : List (Nat × Nat)) (M : zM) : CT zfC w 5 mX9_init [.ref (p0)] (S, M) (gX9_init p0 S M) := by
  refine CT.of (by decide) (Nat.le_of_ble_eq_true rfl) ?_
  show AJ _ _ _ _ 0 [(0, .ref (p0))] [] _ _
  unfold gX9_init
  refine aj_aload_n (0) dX9_init_0 rfl rfl ?_
  refine aj_obj zg_58 zg_31 zg_32 (by decide) (Nat.le_of_ble_eq_true rfl) dX9_init_1 ?_
  refine aj_aload_n (0) dX9_init_4 rfl rfl ?_
  refine r_new (TX := TX5) hg zc5 zg_59 zg_34 zg_2 dX9_init_5 (fun S1 M2 r3 => ?_)
  refine aj_dup dX9_init_8 rfl ?_
  refine aj_bipush (v := (20 : Int32)) dX9_init_9 (by decide) ?_
  refine rC (as := [.int ((20 : Int32))]) hg (c_X5_init w hz hg _ _ _ _) mc_X5_init rfl (Or.inl zg_60) (by decide) (Nat.le_of_ble_eq_true rfl) dX9_init_11 (fun S4 M5 => ?_)
  refine r_putR (TX := TX9) zc9 (by decide) rfl (Or.inr ⟨rfl, rfl, rfl, zg_114⟩) (Or.inl zg_114) dX9_init_14 (fun M6 => ?_)
  refine aj_aload_n (0) dX9_init_17 rfl rfl ?_
  refine r_new (TX := TX5) hg zc5 zg_59 zg_34 zg_2 dX9_init_18 (fun S7 M8 r9 => ?_)
  refine aj_dup dX9_init_21 rfl ?_
  refine aj_iconst (v := (0 : Int32)) dX9_init_22 (by decide) ?_
  refine rC (as := [.int ((0 : Int32))]) hg (c_X5_init w hz hg _ _ _ _) mc_X5_init rfl (Or.inl zg_60) (by decide) (Nat.le_of_ble_eq_true rfl) dX9_init_23 (fun S10 M11 => ?_)
  refine r_putR (TX := TX9) zc9 (by decide) rfl (Or.inl rfl) (Or.inl zg_115) dX9_init_26 (fun M12 => ?_)
  refine aj_iconst (v := (0 : Int32)) dX9_init_29 (by decide) ?_
  refine aj_istore_n (ls2 := [(1, .int ((0 : Int32))), (0, .ref (p0))]) dX9_init_30 rfl (Nat.le_of_ble_eq_true rfl) rfl ?_
  refine aj_iconst (v := (0 : Int32)) dX9_init_31 (by decide) ?_
  refine aj_istore_n (ls2 := [(2, .int ((0 : Int32))), (1, .int ((0 : Int32))), (0, .ref (p0))]) dX9_init_32 rfl (Nat.le_of_ble_eq_true rfl) rfl ?_
  refine aj_bipush (v := (25 : Int32)) dX9_init_33 (by decide) ?_
  refine aj_istore_n (ls2 := [(3, .int ((25 : Int32))), (2, .int ((0 : Int32))), (1, .int ((0 : Int32))), (0, .ref (p0))]) dX9_init_35 rfl (Nat.le_of_ble_eq_true rfl) rfl ?_
  refine aj_iconst (v := (0 : Int32)) dX9_init_36 (by decide) ?_
  refine aj_istore (ls2 := [(4, .int ((0 : Int32))), (3, .int ((25 : Int32))), (2, .int ((0 : Int32))), (1, .int ((0 : Int32))), (0, .ref (p0))]) dX9_init_37 (Nat.le_of_ble_eq_true rfl) rfl ?_
  refine AJ.sub [4, 3, 2, 1, 0] rfl ?_
  exact t_X9_init_39 w hz hg zfu (p0) ((0 : Int32)) ((0 : Int32)) ((25 : Int32)) ((0 : Int32)) S10 M12
def gX9_isBlank (S : List (Nat × Nat)) (x0 : Int32) (M : zM) : Option Int32 := (if x0 = (32 : Int32) then some ((1 : Int32)) else (if x0 = (10 : Int32) then some ((1 : Int32)) else some ((0 : Int32))))
set_option maxHeartbeats 4000000 in
set_option maxRecDepth 100000 in
theorem c_X9_isBlank (w : zWd) (S : List (Nat × Nat)) (x0 : Int32) (M : zM) : CT (zfI S M) w 1 mX9_isBlank [.int (x0)] (S, M) (gX9_isBlank S x0 M) := by
  refine CT.of (by decide) (Nat.le_of_ble_eq_true rfl) ?_
  show AJ _ _ _ _ 0 [(0, .int (x0))] [] _ _
  unfold gX9_isBlank
  refine aj_iload_n (0) dX9_isBlank_0 rfl rfl ?_
  refine aj_bipush (v := (32 : Int32)) dX9_isBlank_1 (by decide) ?_
  refine aj_icmp_eq (tgt := 12) dX9_isBlank_3 (by decide) (fun h => ?_) (fun h => ?_)
  · refine aj_iconst (v := (1 : Int32)) dX9_isBlank_12 (by decide) ?_
    refine aj_goto (tgt := 17) dX9_isBlank_13 (by decide) ?_
    exact aj_iret dX9_isBlank_17 rfl (by decide +kernel) rfl
  refine aj_iload_n (0) dX9_isBlank_6 rfl rfl ?_
  refine aj_bipush (v := (10 : Int32)) dX9_isBlank_7 (by decide) ?_
  refine aj_icmp_ne (tgt := 16) dX9_isBlank_9 (by decide) (fun h => ?_) (fun h => ?_)
  · refine aj_iconst (v := (0 : Int32)) dX9_isBlank_16 (by decide) ?_
    exact aj_iret dX9_isBlank_17 rfl (by decide +kernel) rfl
  refine aj_iconst (v := (1 : Int32)) dX9_isBlank_12 (by decide) ?_
  refine aj_goto (tgt := 17) dX9_isBlank_13 (by decide) ?_
  exact aj_iret dX9_isBlank_17 rfl (by decide +kernel) rfl
def gX9_isDigit (S : List (Nat × Nat)) (x0 : Int32) (M : zM) : Option Int32 := (if x0 < (48 : Int32) then some ((0 : Int32)) else (if (57 : Int32) < x0 then some ((0 : Int32)) else some ((1 : Int32))))
set_option maxHeartbeats 4000000 in
set_option maxRecDepth 100000 in
theorem c_X9_isDigit (w : zWd) (S : List (Nat × Nat)) (x0 : Int32) (M : zM) : CT (zfI S M) w 1 mX9_isDigit [.int (x0)] (S, M) (gX9_isDigit S x0 M) := by
  refine CT.of (by decide) (Nat.le_of_ble_eq_true rfl) ?_
  show AJ _ _ _ _ 0 [(0, .int (x0))] [] _ _
  unfold gX9_isDigit
  refine aj_iload_n (0) dX9_isDigit_0 rfl rfl ?_
  refine aj_bipush (v := (48 : Int32)) dX9_isDigit_1 (by decide) ?_
  refine aj_icmp_lt (tgt := 16) dX9_isDigit_3 (by decide) (fun h => ?_) (fun h => ?_)
  · refine aj_iconst (v := (0 : Int32)) dX9_isDigit_16 (by decide) ?_
    exact aj_iret dX9_isDigit_17 rfl (by decide +kernel) rfl
  refine aj_iload_n (0) dX9_isDigit_6 rfl rfl ?_
  refine aj_bipush (v := (57 : Int32)) dX9_isDigit_7 (by decide) ?_
  refine aj_icmp_gt (tgt := 16) dX9_isDigit_9 (by decide) (fun h => ?_) (fun h => ?_)
  · refine aj_iconst (v := (0 : Int32)) dX9_isDigit_16 (by decide) ?_
    exact aj_iret dX9_isDigit_17 rfl (by decide +kernel) rfl
  refine aj_iconst (v := (1 : Int32)) dX9_isDigit_12 (by decide) ?_
  refine aj_goto (tgt := 17) dX9_isDigit_13 (by decide) ?_
  exact aj_iret dX9_isDigit_17 rfl (by decide +kernel) rfl
def gX9_isLetter (S : List (Nat × Nat)) (x0 : Int32) (M : zM) : Option Int32 := (if x0 < (97 : Int32) then some ((0 : Int32)) else (if (122 : Int32) < x0 then some ((0 : Int32)) else some ((1 : Int32))))
set_option maxHeartbeats 4000000 in
set_option maxRecDepth 100000 in
theorem c_X9_isLetter (w : zWd) (S : List (Nat × Nat)) (x0 : Int32) (M : zM) : CT (zfI S M) w 1 mX9_isLetter [.int (x0)] (S, M) (gX9_isLetter S x0 M) := by
  refine CT.of (by decide) (Nat.le_of_ble_eq_true rfl) ?_
  show AJ _ _ _ _ 0 [(0, .int (x0))] [] _ _
  unfold gX9_isLetter
  refine aj_iload_n (0) dX9_isLetter_0 rfl rfl ?_
  refine aj_bipush (v := (97 : Int32)) dX9_isLetter_1 (by decide) ?_
  refine aj_icmp_lt (tgt := 16) dX9_isLetter_3 (by decide) (fun h => ?_) (fun h => ?_)
  · refine aj_iconst (v := (0 : Int32)) dX9_isLetter_16 (by decide) ?_
    exact aj_iret dX9_isLetter_17 rfl (by decide +kernel) rfl
  refine aj_iload_n (0) dX9_isLetter_6 rfl rfl ?_
  refine aj_bipush (v := (122 : Int32)) dX9_isLetter_7 (by decide) ?_
  refine aj_icmp_gt (tgt := 16) dX9_isLetter_9 (by decide) (fun h => ?_) (fun h => ?_)
  · refine aj_iconst (v := (0 : Int32)) dX9_isLetter_16 (by decide) ?_
    exact aj_iret dX9_isLetter_17 rfl (by decide +kernel) rfl
  refine aj_iconst (v := (1 : Int32)) dX9_isLetter_12 (by decide) ?_
  refine aj_goto (tgt := 17) dX9_isLetter_13 (by decide) ?_
  exact aj_iret dX9_isLetter_17 rfl (by decide +kernel) rfl
def gX9_nextNumber_10 (S : List (Nat × Nat)) : Nat → Nat → zM → Option zM
  | 0 => fun _ _ => none
  | n + 1 => fun p0 M => zgI S M (p0) 9 7 3 (fun v1 => zgI S M (p0) 9 7 2 (fun v2 => (if v2 ≤ v1 then some M else zgR S M (p0) 9 7 1 (fun r3 => zgI S M (p0) 9 7 3 (fun v4 => zrc S (r3) 5 1 ((gX5_get S (r3) (v4) M).bind (fun v5 => (gX9_isDigit S (v5) M).bind (fun v6 => (if v6 = 0 then some M else zgI S M (p0) 9 7 6 (fun v7 => zgR S M (p0) 9 7 1 (fun r8 => zgI S M (p0) 9 7 3 (fun v9 => zrc S (r8) 5 1 ((gX5_get S (r8) (v9) M).bind (fun v10 => zpI S M (p0) 9 7 6 ((if (((v7 * (10 : Int32)) + v10) - (48 : Int32)) < (1000000 : Int32) then (((v7 * (10 : Int32)) + v10) - (48 : Int32)) else (1000000 : Int32))) (fun M11 => zgI S M11 (p0) 9 7 3 (fun v12 => zpI S M11 (p0) 9 7 3 ((v12 + (1 : Int32))) (fun M13 => (gX9_nextNumber_10 S   n) (p0) M13)))))))))))))))))
set_option maxHeartbeats 4000000 in
set_option maxRecDepth 100000 in
theorem t_X9_nextNumber_10 (w : zWd) (S : List (Nat × Nat)) (fu : Nat) : ∀ (p0 : Nat) (M : zM), AJ (zfVM S) w 2 mX9_nextNumber 10 [(0, .ref (p0))] [] (S, M) (gX9_nextNumber_10 S fu p0 M) := by
  induction fu with
  | zero => intro p0 M; exact AJ.none
  | succ n ih =>
    intro p0 M
    unfold gX9_nextNumber_10
    refine aj_aload_n (0) dX9_nextNumber_10 rfl rfl ?_
    refine r_getI (TX := TX9) zc9 (by decide) rfl (Or.inl zg_117) dX9_nextNumber_11 (fun v1 => ?_)
    refine aj_aload_n (0) dX9_nextNumber_14 rfl rfl ?_
    refine r_getI (TX := TX9) zc9 (by decide) rfl (Or.inl zg_116) dX9_nextNumber_15 (fun v2 => ?_)
    refine aj_icmp_ge (tgt := 82) dX9_nextNumber_18 (by decide) (fun h => ?_) (fun h => ?_)
    · exact aj_vret dX9_nextNumber_82 rfl rfl
    refine aj_aload_n (0) dX9_nextNumber_21 rfl rfl ?_
    refine aj_getR (TX := TX9) zc9 (by decide) rfl (Or.inl zg_115) dX9_nextNumber_22 (fun r3 => ?_)
    refine aj_aload_n (0) dX9_nextNumber_25 rfl rfl ?_
    refine r_getI (TX := TX9) zc9 (by decide) rfl (Or.inl zg_117) dX9_nextNumber_26 (fun v4 => ?_)
    refine rV_I (as := [.int (v4)]) (c_X5_get w S _ _ _) mv_X5_get rfl zg_640 (by decide) (Nat.le_of_ble_eq_true rfl) dX9_nextNumber_29 (fun v5 => ?_)
    refine rS_I (as := [.int (v5)]) (c_X9_isDigit w S _ _) ms_X9_isDigit rfl zg_654 (by decide) (Nat.le_of_ble_eq_true rfl) dX9_nextNumber_32 (fun v6 => ?_)
    refine aj_if_eq (tgt := 82) dX9_nextNumber_35 (by decide) (fun h => ?_) (fun h => ?_)
    · exact aj_vret dX9_nextNumber_82 rfl rfl
    refine aj_aload_n (0) dX9_nextNumber_38 rfl rfl ?_
    refine aj_ldc (v := (1000000 : Int32)) dX9_nextNumber_39 zg_661 ?_
    refine aj_aload_n (0) dX9_nextNumber_41 rfl rfl ?_
    refine r_getI (TX := TX9) zc9 (by decide) rfl (Or.inl zg_123) dX9_nextNumber_42 (fun v7 => ?_)
    refine aj_bipush (v := (10 : Int32)) dX9_nextNumber_45 (by decide) ?_
    refine aj_imul dX9_nextNumber_47 ?_
    refine aj_aload_n (0) dX9_nextNumber_48 rfl rfl ?_
    refine aj_getR (TX := TX9) zc9 (by decide) rfl (Or.inl zg_115) dX9_nextNumber_49 (fun r8 => ?_)
    refine aj_aload_n (0) dX9_nextNumber_52 rfl rfl ?_
    refine r_getI (TX := TX9) zc9 (by decide) rfl (Or.inl zg_117) dX9_nextNumber_53 (fun v9 => ?_)
    refine rV_I (as := [.int (v9)]) (c_X5_get w S _ _ _) mv_X5_get rfl zg_640 (by decide) (Nat.le_of_ble_eq_true rfl) dX9_nextNumber_56 (fun v10 => ?_)
    refine aj_iadd dX9_nextNumber_59 ?_
    refine aj_bipush (v := (48 : Int32)) dX9_nextNumber_60 (by decide) ?_
    refine aj_isub dX9_nextNumber_62 ?_
    refine aj_mmin zg_662 zg_663 zg_3 zg_664 (by decide) (Nat.le_of_ble_eq_true rfl) dX9_nextNumber_63 ?_
    refine r_putI (TX := TX9) zc9 (by decide) rfl rfl rfl rfl (Or.inl zg_123) dX9_nextNumber_66 (fun M11 => ?_)
    refine aj_aload_n (0) dX9_nextNumber_69 rfl rfl ?_
    refine aj_dup dX9_nextNumber_70 rfl ?_
    refine r_getI (TX := TX9) zc9 (by decide) rfl (Or.inl zg_117) dX9_nextNumber_71 (fun v12 => ?_)
    refine aj_iconst (v := (1 : Int32)) dX9_nextNumber_74 (by decide) ?_
    refine aj_iadd dX9_nextNumber_75 ?_
    refine r_putI (TX := TX9) zc9 (by decide) rfl rfl rfl rfl (Or.inl zg_117) dX9_nextNumber_76 (fun M13 => ?_)
    refine aj_goto (tgt := 10) dX9_nextNumber_79 (by decide) ?_
    refine AJ.sub [0] rfl ?_
    exact ih (p0) M13
def gX9_nextNumber (S : List (Nat × Nat)) (p0 : Nat) (M : zM) : Option zM := zpI S M (p0) 9 7 5 ((4 : Int32)) (fun M1 => zpI S M1 (p0) 9 7 6 ((0 : Int32)) (fun M2 => gX9_nextNumber_10 S zfu (p0) M2))
set_option maxHeartbeats 4000000 in
set_option maxRecDepth 100000 in
theorem c_X9_nextNumber (w : zWd) (S : List (Nat × Nat)) (p0 : Nat) (M : zM) : CT (zfVM S) w 2 mX9_nextNumber [.ref (p0)] (S, M) (gX9_nextNumber S p0 M) := by
  refine CT.of (by decide) (Nat.le_of_ble_eq_true rfl) ?_
  show AJ _ _ _ _ 0 [(0, .ref (p0))] [] _ _
  unfold gX9_nextNumber
  refine aj_aload_n (0) dX9_nextNumber_0 rfl rfl ?_
  refine aj_iconst (v := (4 : Int32)) dX9_nextNumber_1 (by decide) ?_
  refine r_putI (TX := TX9) zc9 (by decide) rfl rfl rfl rfl (Or.inl zg_121) dX9_nextNumber_2 (fun M1 => ?_)
  refine aj_aload_n (0) dX9_nextNumber_5 rfl rfl ?_
  refine aj_iconst (v := (0 : Int32)) dX9_nextNumber_6 (by decide) ?_
  refine r_putI (TX := TX9) zc9 (by decide) rfl rfl rfl rfl (Or.inl zg_123) dX9_nextNumber_7 (fun M2 => ?_)
  refine AJ.sub [0] rfl ?_
  exact t_X9_nextNumber_10 w S zfu (p0) M2
def gX9_nextSign_248 (S : List (Nat × Nat)) (p0 : Nat) (x0s : Int32) (p1s : Nat) (M : zM) : Option zM := zpI S M (p1s) 9 7 6 (x0s) (fun M1 => zgI S M1 (p0) 9 7 3 (fun v2 => zgI S M1 (p0) 9 7 6 (fun v3 => (if v3 = (6 : Int32) then zpI S M1 (p0) 9 7 3 ((v2 + (0 : Int32))) (fun M5 => some M5) else zpI S M1 (p0) 9 7 3 ((v2 + (1 : Int32))) (fun M4 => some M4)))))
set_option maxHeartbeats 4000000 in
set_option maxRecDepth 100000 in
theorem t_X9_nextSign_248 (w : zWd) (S : List (Nat × Nat)) (p0 : Nat) (x0s : Int32) (p1s : Nat) (M : zM) : AJ (zfVM S) w 2 mX9_nextSign 248 [(0, .ref (p0))] [.int (x0s), .ref (p1s)] (S, M) (gX9_nextSign_248 S p0 x0s p1s M) := by
  unfold gX9_nextSign_248
  refine r_putI (TX := TX9) zc9 (by decide) rfl rfl rfl rfl (Or.inl zg_123) dX9_nextSign_248 (fun M1 => ?_)
  refine aj_aload_n (0) dX9_nextSign_251 rfl rfl ?_
  refine aj_dup dX9_nextSign_252 rfl ?_
  refine r_getI (TX := TX9) zc9 (by decide) rfl (Or.inl zg_117) dX9_nextSign_253 (fun v2 => ?_)
  refine aj_aload_n (0) dX9_nextSign_256 rfl rfl ?_
  refine r_getI (TX := TX9) zc9 (by decide) rfl (Or.inl zg_123) dX9_nextSign_257 (fun v3 => ?_)
  refine aj_bipush (v := (6 : Int32)) dX9_nextSign_260 (by decide) ?_
  refine aj_icmp_ne (tgt := 269) dX9_nextSign_262 (by decide) (fun h => ?_) (fun h => ?_)
  · refine aj_iconst (v := (1 : Int32)) dX9_nextSign_269 (by decide) ?_
    refine aj_iadd dX9_nextSign_270 ?_
    refine r_putI (TX := TX9) zc9 (by decide) rfl rfl rfl rfl (Or.inl zg_117) dX9_nextSign_271 (fun M4 => ?_)
    refine aj_goto (tgt := 325) dX9_nextSign_274 (by decide) ?_
    exact aj_vret dX9_nextSign_325 rfl rfl
  refine aj_iconst (v := (0 : Int32)) dX9_nextSign_265 (by decide) ?_
  refine aj_goto (tgt := 270) dX9_nextSign_266 (by decide) ?_
  refine aj_iadd dX9_nextSign_270 ?_
  refine r_putI (TX := TX9) zc9 (by decide) rfl rfl rfl rfl (Or.inl zg_117) dX9_nextSign_271 (fun M5 => ?_)
  refine aj_goto (tgt := 325) dX9_nextSign_274 (by decide) ?_
  exact aj_vret dX9_nextSign_325 rfl rfl
def gX9_nextSign_291 (S : List (Nat × Nat)) (p0 : Nat) (x0s : Int32) (p1s : Nat) (M : zM) : Option zM := zpI S M (p1s) 9 7 6 (x0s) (fun M1 => zgI S M1 (p0) 9 7 3 (fun v2 => zgI S M1 (p0) 9 7 6 (fun v3 => (if v3 = (11 : Int32) then zpI S M1 (p0) 9 7 3 ((v2 + (0 : Int32))) (fun M5 => some M5) else zpI S M1 (p0) 9 7 3 ((v2 + (1 : Int32))) (fun M4 => some M4)))))
set_option maxHeartbeats 4000000 in
set_option maxRecDepth 100000 in
theorem t_X9_nextSign_291 (w : zWd) (S : List (Nat × Nat)) (p0 : Nat) (x0s : Int32) (p1s : Nat) (M : zM) : AJ (zfVM S) w 2 mX9_nextSign 291 [(0, .ref (p0))] [.int (x0s), .ref (p1s)] (S, M) (gX9_nextSign_291 S p0 x0s p1s M) := by
  unfold gX9_nextSign_291
  refine r_putI (TX := TX9) zc9 (by decide) rfl rfl rfl rfl (Or.inl zg_123) dX9_nextSign_291 (fun M1 => ?_)
  refine aj_aload_n (0) dX9_nextSign_294 rfl rfl ?_
  refine aj_dup dX9_nextSign_295 rfl ?_
  refine r_getI (TX := TX9) zc9 (by decide) rfl (Or.inl zg_117) dX9_nextSign_296 (fun v2 => ?_)
  refine aj_aload_n (0) dX9_nextSign_299 rfl rfl ?_
  refine r_getI (TX := TX9) zc9 (by decide) rfl (Or.inl zg_123) dX9_nextSign_300 (fun v3 => ?_)
  refine aj_bipush (v := (11 : Int32)) dX9_nextSign_303 (by decide) ?_
  refine aj_icmp_ne (tgt := 312) dX9_nextSign_305 (by decide) (fun h => ?_) (fun h => ?_)
  · refine aj_iconst (v := (1 : Int32)) dX9_nextSign_312 (by decide) ?_
    refine aj_iadd dX9_nextSign_313 ?_
    refine r_putI (TX := TX9) zc9 (by decide) rfl rfl rfl rfl (Or.inl zg_117) dX9_nextSign_314 (fun M4 => ?_)
    refine aj_goto (tgt := 325) dX9_nextSign_317 (by decide) ?_
    exact aj_vret dX9_nextSign_325 rfl rfl
  refine aj_iconst (v := (0 : Int32)) dX9_nextSign_308 (by decide) ?_
  refine aj_goto (tgt := 313) dX9_nextSign_309 (by decide) ?_
  refine aj_iadd dX9_nextSign_313 ?_
  refine r_putI (TX := TX9) zc9 (by decide) rfl rfl rfl rfl (Or.inl zg_117) dX9_nextSign_314 (fun M5 => ?_)
  refine aj_goto (tgt := 325) dX9_nextSign_317 (by decide) ?_
  exact aj_vret dX9_nextSign_325 rfl rfl
def gX9_nextSign_36 (S : List (Nat × Nat)) (p0 : Nat) (x1 : Int32) (x0s : Int32) (M : zM) : Option zM := zpI S M (p0) 9 7 5 ((8 : Int32)) (fun M1 => (if x1 = (40 : Int32) then zpI S M1 (p0) 9 7 5 ((6 : Int32)) (fun M3 => some M3) else (if x1 = (41 : Int32) then zpI S M1 (p0) 9 7 5 ((7 : Int32)) (fun M5 => some M5) else (if x1 = (42 : Int32) then zpI S M1 (p0) 9 7 6 ((14 : Int32)) (fun M7 => some M7) else (if x1 = (43 : Int32) then zpI S M1 (p0) 9 7 6 ((12 : Int32)) (fun M9 => some M9) else (if x1 = (44 : Int32) then zpI S M1 (p0) 9 7 5 ((1 : Int32)) (fun M11 => some M11) else (if x1 = (45 : Int32) then zpI S M1 (p0) 9 7 6 ((13 : Int32)) (fun M13 => some M13) else (if x1 = (46 : Int32) then zpI S M1 (p0) 9 7 5 ((1 : Int32)) (fun M15 => some M15) else (if x1 = (47 : Int32) then zpI S M1 (p0) 9 7 6 ((15 : Int32)) (fun M17 => some M17) else (if x1 = (48 : Int32) then zpI S M1 (p0) 9 7 5 ((1 : Int32)) (fun M19 => some M19) else (if x1 = (49 : Int32) then zpI S M1 (p0) 9 7 5 ((1 : Int32)) (fun M21 => some M21) else (if x1 = (50 : Int32) then zpI S M1 (p0) 9 7 5 ((1 : Int32)) (fun M23 => some M23) else (if x1 = (51 : Int32) then zpI S M1 (p0) 9 7 5 ((1 : Int32)) (fun M25 => some M25) else (if x1 = (52 : Int32) then zpI S M1 (p0) 9 7 5 ((1 : Int32)) (fun M27 => some M27) else (if x1 = (53 : Int32) then zpI S M1 (p0) 9 7 5 ((1 : Int32)) (fun M29 => some M29) else (if x1 = (54 : Int32) then zpI S M1 (p0) 9 7 5 ((1 : Int32)) (fun M31 => some M31) else (if x1 = (55 : Int32) then zpI S M1 (p0) 9 7 5 ((1 : Int32)) (fun M33 => some M33) else (if x1 = (56 : Int32) then zpI S M1 (p0) 9 7 5 ((1 : Int32)) (fun M35 => some M35) else (if x1 = (57 : Int32) then zpI S M1 (p0) 9 7 5 ((1 : Int32)) (fun M37 => some M37) else (if x1 = (58 : Int32) then zpI S M1 (p0) 9 7 5 ((1 : Int32)) (fun M39 => some M39) else (if x1 = (59 : Int32) then zpI S M1 (p0) 9 7 5 ((5 : Int32)) (fun M41 => some M41) else (if x1 = (60 : Int32) then (if x0s = (61 : Int32) then gX9_nextSign_248 S (p0) ((7 : Int32)) (p0) M1 else (if x0s = (62 : Int32) then gX9_nextSign_248 S (p0) ((9 : Int32)) (p0) M1 else gX9_nextSign_248 S (p0) ((6 : Int32)) (p0) M1)) else (if x1 = (61 : Int32) then zpI S M1 (p0) 9 7 6 ((8 : Int32)) (fun M44 => some M44) else (if x1 = (62 : Int32) then (if x0s = (61 : Int32) then gX9_nextSign_291 S (p0) ((10 : Int32)) (p0) M1 else gX9_nextSign_291 S (p0) ((11 : Int32)) (p0) M1) else zpI S M1 (p0) 9 7 5 ((1 : Int32)) (fun M46 => some M46)))))))))))))))))))))))))
set_option maxHeartbeats 4000000 in
set_option maxRecDepth 100000 in
theorem t_X9_nextSign_36 (w : zWd) (S : List (Nat × Nat)) (p0 : Nat) (x1 : Int32) (x0s : Int32) (M : zM) : AJ (zfVM S) w 2 mX9_nextSign 36 [(0, .ref (p0)), (1, .int (x1))] [.int (x0s)] (S, M) (gX9_nextSign_36 S p0 x1 x0s M) := by
  unfold gX9_nextSign_36
  refine aj_istore_n (ls2 := [(2, .int (x0s)), (0, .ref (p0)), (1, .int (x1))]) dX9_nextSign_36 rfl (Nat.le_of_ble_eq_true rfl) rfl ?_
  refine aj_aload_n (1) dX9_nextSign_37 rfl rfl ?_
  refine aj_bipush (v := (8 : Int32)) dX9_nextSign_38 (by decide) ?_
  refine r_putI (TX := TX9) zc9 (by decide) rfl rfl rfl rfl (Or.inl zg_121) dX9_nextSign_40 (fun M1 => ?_)
  refine aj_iload_n (2) dX9_nextSign_43 rfl rfl ?_
  refine aj_ite (fun h => ?_) (fun h2 => ?_)
  · have h9 : x1 = (40 : Int32) := h
    refine aj_tsw (tgt := 160) (off := 116) dX9_nextSign_44 (by rw [h9]; decide) (by rw [h9]; decide) (by rw [h9]; decide +kernel) (by decide) ?_
    refine aj_aload_n (1) dX9_nextSign_160 rfl rfl ?_
    refine aj_bipush (v := (6 : Int32)) dX9_nextSign_161 (by decide) ?_
    refine r_putI (TX := TX9) zc9 (by decide) rfl rfl rfl rfl (Or.inl zg_121) dX9_nextSign_163 (fun M3 => ?_)
    refine aj_goto (tgt := 325) dX9_nextSign_166 (by decide) ?_
    exact aj_vret dX9_nextSign_325 rfl rfl
  refine aj_ite (fun h => ?_) (fun h4 => ?_)
  · have h9 : x1 = (41 : Int32) := h
    refine aj_tsw (tgt := 169) (off := 125) dX9_nextSign_44 (by rw [h9]; decide) (by rw [h9]; decide) (by rw [h9]; decide +kernel) (by decide) ?_
    refine aj_aload_n (1) dX9_nextSign_169 rfl rfl ?_
    refine aj_bipush (v := (7 : Int32)) dX9_nextSign_170 (by decide) ?_
    refine r_putI (TX := TX9) zc9 (by decide) rfl rfl rfl rfl (Or.inl zg_121) dX9_nextSign_172 (fun M5 => ?_)
    refine aj_goto (tgt := 325) dX9_nextSign_175 (by decide) ?_
    exact aj_vret dX9_nextSign_325 rfl rfl
  refine aj_ite (fun h => ?_) (fun h6 => ?_)
  · have h9 : x1 = (42 : Int32) := h
    refine aj_tsw (tgt := 196) (off := 152) dX9_nextSign_44 (by rw [h9]; decide) (by rw [h9]; decide) (by rw [h9]; decide +kernel) (by decide) ?_
    refine aj_aload_n (1) dX9_nextSign_196 rfl rfl ?_
    refine aj_bipush (v := (14 : Int32)) dX9_nextSign_197 (by decide) ?_
    refine r_putI (TX := TX9) zc9 (by decide) rfl rfl rfl rfl (Or.inl zg_123) dX9_nextSign_199 (fun M7 => ?_)
    refine aj_goto (tgt := 325) dX9_nextSign_202 (by decide) ?_
    exact aj_vret dX9_nextSign_325 rfl rfl
  refine aj_ite (fun h => ?_) (fun h8 => ?_)
  · have h9 : x1 = (43 : Int32) := h
    refine aj_tsw (tgt := 178) (off := 134) dX9_nextSign_44 (by rw [h9]; decide) (by rw [h9]; decide) (by rw [h9]; decide +kernel) (by decide) ?_
    refine aj_aload_n (1) dX9_nextSign_178 rfl rfl ?_
    refine aj_bipush (v := (12 : Int32)) dX9_nextSign_179 (by decide) ?_
    refine r_putI (TX := TX9) zc9 (by decide) rfl rfl rfl rfl (Or.inl zg_123) dX9_nextSign_181 (fun M9 => ?_)
    refine aj_goto (tgt := 325) dX9_nextSign_184 (by decide) ?_
    exact aj_vret dX9_nextSign_325 rfl rfl
  refine aj_ite (fun h => ?_) (fun h10 => ?_)
  · have h9 : x1 = (44 : Int32) := h
    refine aj_tsw (tgt := 320) (off := 276) dX9_nextSign_44 (by rw [h9]; decide) (by rw [h9]; decide) (by rw [h9]; decide +kernel) (by decide) ?_
    refine aj_aload_n (1) dX9_nextSign_320 rfl rfl ?_
    refine aj_iconst (v := (1 : Int32)) dX9_nextSign_321 (by decide) ?_
    refine r_putI (TX := TX9) zc9 (by decide) rfl rfl rfl rfl (Or.inl zg_121) dX9_nextSign_322 (fun M11 => ?_)
    exact aj_vret dX9_nextSign_325 rfl rfl
  refine aj_ite (fun h => ?_) (fun h12 => ?_)
  · have h9 : x1 = (45 : Int32) := h
    refine aj_tsw (tgt := 187) (off := 143) dX9_nextSign_44 (by rw [h9]; decide) (by rw [h9]; decide) (by rw [h9]; decide +kernel) (by decide) ?_
    refine aj_aload_n (1) dX9_nextSign_187 rfl rfl ?_
    refine aj_bipush (v := (13 : Int32)) dX9_nextSign_188 (by decide) ?_
    refine r_putI (TX := TX9) zc9 (by decide) rfl rfl rfl rfl (Or.inl zg_123) dX9_nextSign_190 (fun M13 => ?_)
    refine aj_goto (tgt := 325) dX9_nextSign_193 (by decide) ?_
    exact aj_vret dX9_nextSign_325 rfl rfl
  refine aj_ite (fun h => ?_) (fun h14 => ?_)
  · have h9 : x1 = (46 : Int32) := h
    refine aj_tsw (tgt := 320) (off := 276) dX9_nextSign_44 (by rw [h9]; decide) (by rw [h9]; decide) (by rw [h9]; decide +kernel) (by decide) ?_
    refine aj_aload_n (1) dX9_nextSign_320 rfl rfl ?_
    refine aj_iconst (v := (1 : Int32)) dX9_nextSign_321 (by decide) ?_
    refine r_putI (TX := TX9) zc9 (by decide) rfl rfl rfl rfl (Or.inl zg_121) dX9_nextSign_322 (fun M15 => ?_)
    exact aj_vret dX9_nextSign_325 rfl rfl
  refine aj_ite (fun h => ?_) (fun h16 => ?_)
  · have h9 : x1 = (47 : Int32) := h
    refine aj_tsw (tgt := 205) (off := 161) dX9_nextSign_44 (by rw [h9]; decide) (by rw [h9]; decide) (by rw [h9]; decide +kernel) (by decide) ?_
    refine aj_aload_n (1) dX9_nextSign_205 rfl rfl ?_
    refine aj_bipush (v := (15 : Int32)) dX9_nextSign_206 (by decide) ?_
    refine r_putI (TX := TX9) zc9 (by decide) rfl rfl rfl rfl (Or.inl zg_123) dX9_nextSign_208 (fun M17 => ?_)
    refine aj_goto (tgt := 325) dX9_nextSign_211 (by decide) ?_
    exact aj_vret dX9_nextSign_325 rfl rfl
  refine aj_ite (fun h => ?_) (fun h18 => ?_)
  · have h9 : x1 = (48 : Int32) := h
    refine aj_tsw (tgt := 320) (off := 276) dX9_nextSign_44 (by rw [h9]; decide) (by rw [h9]; decide) (by rw [h9]; decide +kernel) (by decide) ?_
    refine aj_aload_n (1) dX9_nextSign_320 rfl rfl ?_
    refine aj_iconst (v := (1 : Int32)) dX9_nextSign_321 (by decide) ?_
    refine r_putI (TX := TX9) zc9 (by decide) rfl rfl rfl rfl (Or.inl zg_121) dX9_nextSign_322 (fun M19 => ?_)
    exact aj_vret dX9_nextSign_325 rfl rfl
  refine aj_ite (fun h => ?_) (fun h20 => ?_)
  · have h9 : x1 = (49 : Int32) := h
    refine aj_tsw (tgt := 320) (off := 276) dX9_nextSign_44 (by rw [h9]; decide) (by rw [h9]; decide) (by rw [h9]; decide +kernel) (by decide) ?_
    refine aj_aload_n (1) dX9_nextSign_320 rfl rfl ?_
    refine aj_iconst (v := (1 : Int32)) dX9_nextSign_321 (by decide) ?_
    refine r_putI (TX := TX9) zc9 (by decide) rfl rfl rfl rfl (Or.inl zg_121) dX9_nextSign_322 (fun M21 => ?_)
    exact aj_vret dX9_nextSign_325 rfl rfl
  refine aj_ite (fun h => ?_) (fun h22 => ?_)
  · have h9 : x1 = (50 : Int32) := h
    refine aj_tsw (tgt := 320) (off := 276) dX9_nextSign_44 (by rw [h9]; decide) (by rw [h9]; decide) (by rw [h9]; decide +kernel) (by decide) ?_
    refine aj_aload_n (1) dX9_nextSign_320 rfl rfl ?_
    refine aj_iconst (v := (1 : Int32)) dX9_nextSign_321 (by decide) ?_
    refine r_putI (TX := TX9) zc9 (by decide) rfl rfl rfl rfl (Or.inl zg_121) dX9_nextSign_322 (fun M23 => ?_)
    exact aj_vret dX9_nextSign_325 rfl rfl
  refine aj_ite (fun h => ?_) (fun h24 => ?_)
  · have h9 : x1 = (51 : Int32) := h
    refine aj_tsw (tgt := 320) (off := 276) dX9_nextSign_44 (by rw [h9]; decide) (by rw [h9]; decide) (by rw [h9]; decide +kernel) (by decide) ?_
    refine aj_aload_n (1) dX9_nextSign_320 rfl rfl ?_
    refine aj_iconst (v := (1 : Int32)) dX9_nextSign_321 (by decide) ?_
    refine r_putI (TX := TX9) zc9 (by decide) rfl rfl rfl rfl (Or.inl zg_121) dX9_nextSign_322 (fun M25 => ?_)
    exact aj_vret dX9_nextSign_325 rfl rfl
  refine aj_ite (fun h => ?_) (fun h26 => ?_)
  · have h9 : x1 = (52 : Int32) := h
    refine aj_tsw (tgt := 320) (off := 276) dX9_nextSign_44 (by rw [h9]; decide) (by rw [h9]; decide) (by rw [h9]; decide +kernel) (by decide) ?_
    refine aj_aload_n (1) dX9_nextSign_320 rfl rfl ?_
    refine aj_iconst (v := (1 : Int32)) dX9_nextSign_321 (by decide) ?_
    refine r_putI (TX := TX9) zc9 (by decide) rfl rfl rfl rfl (Or.inl zg_121) dX9_nextSign_322 (fun M27 => ?_)
    exact aj_vret dX9_nextSign_325 rfl rfl
  refine aj_ite (fun h => ?_) (fun h28 => ?_)
  · have h9 : x1 = (53 : Int32) := h
    refine aj_tsw (tgt := 320) (off := 276) dX9_nextSign_44 (by rw [h9]; decide) (by rw [h9]; decide) (by rw [h9]; decide +kernel) (by decide) ?_
    refine aj_aload_n (1) dX9_nextSign_320 rfl rfl ?_
    refine aj_iconst (v := (1 : Int32)) dX9_nextSign_321 (by decide) ?_
    refine r_putI (TX := TX9) zc9 (by decide) rfl rfl rfl rfl (Or.inl zg_121) dX9_nextSign_322 (fun M29 => ?_)
    exact aj_vret dX9_nextSign_325 rfl rfl
  refine aj_ite (fun h => ?_) (fun h30 => ?_)
  · have h9 : x1 = (54 : Int32) := h
    refine aj_tsw (tgt := 320) (off := 276) dX9_nextSign_44 (by rw [h9]; decide) (by rw [h9]; decide) (by rw [h9]; decide +kernel) (by decide) ?_
    refine aj_aload_n (1) dX9_nextSign_320 rfl rfl ?_
    refine aj_iconst (v := (1 : Int32)) dX9_nextSign_321 (by decide) ?_
    refine r_putI (TX := TX9) zc9 (by decide) rfl rfl rfl rfl (Or.inl zg_121) dX9_nextSign_322 (fun M31 => ?_)
    exact aj_vret dX9_nextSign_325 rfl rfl
  refine aj_ite (fun h => ?_) (fun h32 => ?_)
  · have h9 : x1 = (55 : Int32) := h
    refine aj_tsw (tgt := 320) (off := 276) dX9_nextSign_44 (by rw [h9]; decide) (by rw [h9]; decide) (by rw [h9]; decide +kernel) (by decide) ?_
    refine aj_aload_n (1) dX9_nextSign_320 rfl rfl ?_
    refine aj_iconst (v := (1 : Int32)) dX9_nextSign_321 (by decide) ?_
    refine r_putI (TX := TX9) zc9 (by decide) rfl rfl rfl rfl (Or.inl zg_121) dX9_nextSign_322 (fun M33 => ?_)
    exact aj_vret dX9_nextSign_325 rfl rfl
  refine aj_ite (fun h => ?_) (fun h34 => ?_)
  · have h9 : x1 = (56 : Int32) := h
    refine aj_tsw (tgt := 320) (off := 276) dX9_nextSign_44 (by rw [h9]; decide) (by rw [h9]; decide) (by rw [h9]; decide +kernel) (by decide) ?_
    refine aj_aload_n (1) dX9_nextSign_320 rfl rfl ?_
    refine aj_iconst (v := (1 : Int32)) dX9_nextSign_321 (by decide) ?_
    refine r_putI (TX := TX9) zc9 (by decide) rfl rfl rfl rfl (Or.inl zg_121) dX9_nextSign_322 (fun M35 => ?_)
    exact aj_vret dX9_nextSign_325 rfl rfl
  refine aj_ite (fun h => ?_) (fun h36 => ?_)
  · have h9 : x1 = (57 : Int32) := h
    refine aj_tsw (tgt := 320) (off := 276) dX9_nextSign_44 (by rw [h9]; decide) (by rw [h9]; decide) (by rw [h9]; decide +kernel) (by decide) ?_
    refine aj_aload_n (1) dX9_nextSign_320 rfl rfl ?_
    refine aj_iconst (v := (1 : Int32)) dX9_nextSign_321 (by decide) ?_
    refine r_putI (TX := TX9) zc9 (by decide) rfl rfl rfl rfl (Or.inl zg_121) dX9_nextSign_322 (fun M37 => ?_)
    exact aj_vret dX9_nextSign_325 rfl rfl
  refine aj_ite (fun h => ?_) (fun h38 => ?_)
  · have h9 : x1 = (58 : Int32) := h
    refine aj_tsw (tgt := 320) (off := 276) dX9_nextSign_44 (by rw [h9]; decide) (by rw [h9]; decide) (by rw [h9]; decide +kernel) (by decide) ?_
    refine aj_aload_n (1) dX9_nextSign_320 rfl rfl ?_
    refine aj_iconst (v := (1 : Int32)) dX9_nextSign_321 (by decide) ?_
    refine r_putI (TX := TX9) zc9 (by decide) rfl rfl rfl rfl (Or.inl zg_121) dX9_nextSign_322 (fun M39 => ?_)
    exact aj_vret dX9_nextSign_325 rfl rfl
  refine aj_ite (fun h => ?_) (fun h40 => ?_)
  · have h9 : x1 = (59 : Int32) := h
    refine aj_tsw (tgt := 152) (off := 108) dX9_nextSign_44 (by rw [h9]; decide) (by rw [h9]; decide) (by rw [h9]; decide +kernel) (by decide) ?_
    refine aj_aload_n (1) dX9_nextSign_152 rfl rfl ?_
    refine aj_iconst (v := (5 : Int32)) dX9_nextSign_153 (by decide) ?_
    refine r_putI (TX := TX9) zc9 (by decide) rfl rfl rfl rfl (Or.inl zg_121) dX9_nextSign_154 (fun M41 => ?_)
    refine aj_goto (tgt := 325) dX9_nextSign_157 (by decide) ?_
    exact aj_vret dX9_nextSign_325 rfl rfl
  refine aj_ite (fun h => ?_) (fun h42 => ?_)
  · have h9 : x1 = (60 : Int32) := h
    refine aj_tsw (tgt := 223) (off := 179) dX9_nextSign_44 (by rw [h9]; decide) (by rw [h9]; decide) (by rw [h9]; decide +kernel) (by decide) ?_
    refine aj_aload_n (1) dX9_nextSign_223 rfl rfl ?_
    refine aj_iload_n (0) dX9_nextSign_224 rfl rfl ?_
    refine aj_bipush (v := (61 : Int32)) dX9_nextSign_225 (by decide) ?_
    refine aj_icmp_ne (tgt := 235) dX9_nextSign_227 (by decide) (fun h => ?_) (fun h => ?_)
    · refine aj_iload_n (0) dX9_nextSign_235 rfl rfl ?_
      refine aj_bipush (v := (62 : Int32)) dX9_nextSign_236 (by decide) ?_
      refine aj_icmp_ne (tgt := 246) dX9_nextSign_238 (by decide) (fun h => ?_) (fun h => ?_)
      · refine aj_bipush (v := (6 : Int32)) dX9_nextSign_246 (by decide) ?_
        refine AJ.sub [1] rfl ?_
        exact t_X9_nextSign_248 w S (p0) ((6 : Int32)) (p0) M1
      refine aj_bipush (v := (9 : Int32)) dX9_nextSign_241 (by decide) ?_
      refine aj_goto (tgt := 248) dX9_nextSign_243 (by decide) ?_
      refine AJ.sub [1] rfl ?_
      exact t_X9_nextSign_248 w S (p0) ((9 : Int32)) (p0) M1
    refine aj_bipush (v := (7 : Int32)) dX9_nextSign_230 (by decide) ?_
    refine aj_goto (tgt := 248) dX9_nextSign_232 (by decide) ?_
    refine AJ.sub [1] rfl ?_
    exact t_X9_nextSign_248 w S (p0) ((7 : Int32)) (p0) M1
  refine aj_ite (fun h => ?_) (fun h43 => ?_)
  · have h9 : x1 = (61 : Int32) := h
    refine aj_tsw (tgt := 214) (off := 170) dX9_nextSign_44 (by rw [h9]; decide) (by rw [h9]; decide) (by rw [h9]; decide +kernel) (by decide) ?_
    refine aj_aload_n (1) dX9_nextSign_214 rfl rfl ?_
    refine aj_bipush (v := (8 : Int32)) dX9_nextSign_215 (by decide) ?_
    refine r_putI (TX := TX9) zc9 (by decide) rfl rfl rfl rfl (Or.inl zg_123) dX9_nextSign_217 (fun M44 => ?_)
    refine aj_goto (tgt := 325) dX9_nextSign_220 (by decide) ?_
    exact aj_vret dX9_nextSign_325 rfl rfl
  refine aj_ite (fun h => ?_) (fun h45 => ?_)
  · have h9 : x1 = (62 : Int32) := h
    refine aj_tsw (tgt := 277) (off := 233) dX9_nextSign_44 (by rw [h9]; decide) (by rw [h9]; decide) (by rw [h9]; decide +kernel) (by decide) ?_
    refine aj_aload_n (1) dX9_nextSign_277 rfl rfl ?_
    refine aj_iload_n (0) dX9_nextSign_278 rfl rfl ?_
    refine aj_bipush (v := (61 : Int32)) dX9_nextSign_279 (by decide) ?_
    refine aj_icmp_ne (tgt := 289) dX9_nextSign_281 (by decide) (fun h => ?_) (fun h => ?_)
    · refine aj_bipush (v := (11 : Int32)) dX9_nextSign_289 (by decide) ?_
      refine AJ.sub [1] rfl ?_
      exact t_X9_nextSign_291 w S (p0) ((11 : Int32)) (p0) M1
    refine aj_bipush (v := (10 : Int32)) dX9_nextSign_284 (by decide) ?_
    refine aj_goto (tgt := 291) dX9_nextSign_286 (by decide) ?_
    refine AJ.sub [1] rfl ?_
    exact t_X9_nextSign_291 w S (p0) ((10 : Int32)) (p0) M1
  refine aj_tswO (tgt := 320) dX9_nextSign_44 (by have a0 := lv_neT (k := (40 : Int32)) h2 (a := 40) (by decide); have a1 := lv_neT (k := (41 : Int32)) h4 (a := 41) (by decide); have a2 := lv_neT (k := (42 : Int32)) h6 (a := 42) (by decide); have a3 := lv_neT (k := (43 : Int32)) h8 (a := 43) (by decide); have a4 := lv_neT (k := (44 : Int32)) h10 (a := 44) (by decide); have a5 := lv_neT (k := (45 : Int32)) h12 (a := 45) (by decide); have a6 := lv_neT (k := (46 : Int32)) h14 (a := 46) (by decide); have a7 := lv_neT (k := (47 : Int32)) h16 (a := 47) (by decide); have a8 := lv_neT (k := (48 : Int32)) h18 (a := 48) (by decide); have a9 := lv_neT (k := (49 : Int32)) h20 (a := 49) (by decide); have a10 := lv_neT (k := (50 : Int32)) h22 (a := 50) (by decide); have a11 := lv_neT (k := (51 : Int32)) h24 (a := 51) (by decide); have a12 := lv_neT (k := (52 : Int32)) h26 (a := 52) (by decide); have a13 := lv_neT (k := (53 : Int32)) h28 (a := 53) (by decide); have a14 := lv_neT (k := (54 : Int32)) h30 (a := 54) (by decide); have a15 := lv_neT (k := (55 : Int32)) h32 (a := 55) (by decide); have a16 := lv_neT (k := (56 : Int32)) h34 (a := 56) (by decide); have a17 := lv_neT (k := (57 : Int32)) h36 (a := 57) (by decide); have a18 := lv_neT (k := (58 : Int32)) h38 (a := 58) (by decide); have a19 := lv_neT (k := (59 : Int32)) h40 (a := 59) (by decide); have a20 := lv_neT (k := (60 : Int32)) h42 (a := 60) (by decide); have a21 := lv_neT (k := (61 : Int32)) h43 (a := 61) (by decide); have a22 := lv_neT (k := (62 : Int32)) h45 (a := 62) (by decide); omega) (by decide) ?_
  refine aj_aload_n (1) dX9_nextSign_320 rfl rfl ?_
  refine aj_iconst (v := (1 : Int32)) dX9_nextSign_321 (by decide) ?_
  refine r_putI (TX := TX9) zc9 (by decide) rfl rfl rfl rfl (Or.inl zg_121) dX9_nextSign_322 (fun M46 => ?_)
  exact aj_vret dX9_nextSign_325 rfl rfl
def gX9_nextSign (S : List (Nat × Nat)) (p0 : Nat) (x1 : Int32) (M : zM) : Option zM := zgI S M (p0) 9 7 3 (fun v1 => zpI S M (p0) 9 7 3 ((v1 + (1 : Int32))) (fun M2 => zgI S M2 (p0) 9 7 3 (fun v3 => zgI S M2 (p0) 9 7 2 (fun v4 => (if v4 ≤ v3 then gX9_nextSign_36 S (p0) (x1) ((0 : Int32)) M2 else zgR S M2 (p0) 9 7 1 (fun r5 => zgI S M2 (p0) 9 7 3 (fun v6 => zrc S (r5) 5 1 ((gX5_get S (r5) (v6) M2).bind (fun v7 => gX9_nextSign_36 S (p0) (x1) (v7) M2)))))))))
set_option maxHeartbeats 4000000 in
set_option maxRecDepth 100000 in
theorem c_X9_nextSign (w : zWd) (S : List (Nat × Nat)) (p0 : Nat) (x1 : Int32) (M : zM) : CT (zfVM S) w 2 mX9_nextSign [.ref (p0), .int (x1)] (S, M) (gX9_nextSign S p0 x1 M) := by
  refine CT.of (by decide) (Nat.le_of_ble_eq_true rfl) ?_
  show AJ _ _ _ _ 0 [(0, .ref (p0)), (1, .int (x1))] [] _ _
  unfold gX9_nextSign
  refine aj_aload_n (0) dX9_nextSign_0 rfl rfl ?_
  refine aj_dup dX9_nextSign_1 rfl ?_
  refine r_getI (TX := TX9) zc9 (by decide) rfl (Or.inl zg_117) dX9_nextSign_2 (fun v1 => ?_)
  refine aj_iconst (v := (1 : Int32)) dX9_nextSign_5 (by decide) ?_
  refine aj_iadd dX9_nextSign_6 ?_
  refine r_putI (TX := TX9) zc9 (by decide) rfl rfl rfl rfl (Or.inl zg_117) dX9_nextSign_7 (fun M2 => ?_)
  refine aj_aload_n (0) dX9_nextSign_10 rfl rfl ?_
  refine r_getI (TX := TX9) zc9 (by decide) rfl (Or.inl zg_117) dX9_nextSign_11 (fun v3 => ?_)
  refine aj_aload_n (0) dX9_nextSign_14 rfl rfl ?_
  refine r_getI (TX := TX9) zc9 (by decide) rfl (Or.inl zg_116) dX9_nextSign_15 (fun v4 => ?_)
  refine aj_icmp_ge (tgt := 35) dX9_nextSign_18 (by decide) (fun h => ?_) (fun h => ?_)
  · refine aj_iconst (v := (0 : Int32)) dX9_nextSign_35 (by decide) ?_
    refine AJ.sub [0, 1] rfl ?_
    exact t_X9_nextSign_36 w S (p0) (x1) ((0 : Int32)) M2
  refine aj_aload_n (0) dX9_nextSign_21 rfl rfl ?_
  refine aj_getR (TX := TX9) zc9 (by decide) rfl (Or.inl zg_115) dX9_nextSign_22 (fun r5 => ?_)
  refine aj_aload_n (0) dX9_nextSign_25 rfl rfl ?_
  refine r_getI (TX := TX9) zc9 (by decide) rfl (Or.inl zg_117) dX9_nextSign_26 (fun v6 => ?_)
  refine rV_I (as := [.int (v6)]) (c_X5_get w S _ _ _) mv_X5_get rfl zg_640 (by decide) (Nat.le_of_ble_eq_true rfl) dX9_nextSign_29 (fun v7 => ?_)
  refine aj_goto (tgt := 36) dX9_nextSign_32 (by decide) ?_
  refine AJ.sub [0, 1] rfl ?_
  exact t_X9_nextSign_36 w S (p0) (x1) (v7) M2
def gX9_nextWord_163 (S : List (Nat × Nat)) (p0 : Nat) (M : zM) : Option zM := zgI S M (p0) 9 7 5 (fun v1 => (if v1 = (3 : Int32) then zgI S M (p0) 9 7 6 (fun v2 => (if v2 < (10 : Int32) then some M else zgI S M (p0) 9 7 6 (fun v3 => (if (12 : Int32) < v3 then some M else zpI S M (p0) 9 7 5 ((8 : Int32)) (fun M4 => zgI S M4 (p0) 9 7 6 (fun v5 => zpI S M4 (p0) 9 7 6 ((((3 : Int32) + v5) - (10 : Int32))) (fun M6 => some M6))))))) else some M))
set_option maxHeartbeats 4000000 in
set_option maxRecDepth 100000 in
theorem t_X9_nextWord_163 (w : zWd) (S : List (Nat × Nat)) (p0 : Nat) (M : zM) : AJ (zfVM S) w 2 mX9_nextWord 163 [(0, .ref (p0))] [] (S, M) (gX9_nextWord_163 S p0 M) := by
  unfold gX9_nextWord_163
  refine aj_aload_n (0) dX9_nextWord_163 rfl rfl ?_
  refine r_getI (TX := TX9) zc9 (by decide) rfl (Or.inl zg_121) dX9_nextWord_164 (fun v1 => ?_)
  refine aj_iconst (v := (3 : Int32)) dX9_nextWord_167 (by decide) ?_
  refine aj_icmp_ne (tgt := 208) dX9_nextWord_168 (by decide) (fun h => ?_) (fun h => ?_)
  · exact aj_vret dX9_nextWord_208 rfl rfl
  refine aj_aload_n (0) dX9_nextWord_171 rfl rfl ?_
  refine r_getI (TX := TX9) zc9 (by decide) rfl (Or.inl zg_123) dX9_nextWord_172 (fun v2 => ?_)
  refine aj_bipush (v := (10 : Int32)) dX9_nextWord_175 (by decide) ?_
  refine aj_icmp_lt (tgt := 208) dX9_nextWord_177 (by decide) (fun h => ?_) (fun h => ?_)
  · exact aj_vret dX9_nextWord_208 rfl rfl
  refine aj_aload_n (0) dX9_nextWord_180 rfl rfl ?_
  refine r_getI (TX := TX9) zc9 (by decide) rfl (Or.inl zg_123) dX9_nextWord_181 (fun v3 => ?_)
  refine aj_bipush (v := (12 : Int32)) dX9_nextWord_184 (by decide) ?_
  refine aj_icmp_gt (tgt := 208) dX9_nextWord_186 (by decide) (fun h => ?_) (fun h => ?_)
  · exact aj_vret dX9_nextWord_208 rfl rfl
  refine aj_aload_n (0) dX9_nextWord_189 rfl rfl ?_
  refine aj_bipush (v := (8 : Int32)) dX9_nextWord_190 (by decide) ?_
  refine r_putI (TX := TX9) zc9 (by decide) rfl rfl rfl rfl (Or.inl zg_121) dX9_nextWord_192 (fun M4 => ?_)
  refine aj_aload_n (0) dX9_nextWord_195 rfl rfl ?_
  refine aj_iconst (v := (3 : Int32)) dX9_nextWord_196 (by decide) ?_
  refine aj_aload_n (0) dX9_nextWord_197 rfl rfl ?_
  refine r_getI (TX := TX9) zc9 (by decide) rfl (Or.inl zg_123) dX9_nextWord_198 (fun v5 => ?_)
  refine aj_iadd dX9_nextWord_201 ?_
  refine aj_bipush (v := (10 : Int32)) dX9_nextWord_202 (by decide) ?_
  refine aj_isub dX9_nextWord_204 ?_
  refine r_putI (TX := TX9) zc9 (by decide) rfl rfl rfl rfl (Or.inl zg_123) dX9_nextWord_205 (fun M6 => ?_)
  exact aj_vret dX9_nextWord_208 rfl rfl
def gX9_nextWord_121 (S : List (Nat × Nat)) : Nat → Nat → Int32 → Int32 → zM → Option zM
  | 0 => fun _ _ _ _ => none
  | n + 1 => fun p0 x1 x2 M => (if (20 : Int32) ≤ x2 then gX9_nextWord_163 S (p0) M else zgI S M (p0) 9 7 5 (fun v1 => (if v1 = (2 : Int32) then zgR S M (p0) 9 7 0 (fun r2 => zrc S (r2) 5 1 ((gX5_get S (r2) (x2) M).bind (fun v3 => (if v3 = x1 then zpI S M (p0) 9 7 5 ((3 : Int32)) (fun M4 => zpI S M4 (p0) 9 7 6 (x2) (fun M5 => (gX9_nextWord_121 S   n) (p0) (x1) ((x2 + (1 : Int32))) M5)) else (gX9_nextWord_121 S   n) (p0) (x1) ((x2 + (1 : Int32))) M)))) else gX9_nextWord_163 S (p0) M)))
set_option maxHeartbeats 4000000 in
set_option maxRecDepth 100000 in
theorem t_X9_nextWord_121 (w : zWd) (S : List (Nat × Nat)) (fu : Nat) : ∀ (p0 : Nat) (x1 : Int32) (x2 : Int32) (M : zM), AJ (zfVM S) w 2 mX9_nextWord 121 [(0, .ref (p0)), (1, .int (x1)), (2, .int (x2))] [] (S, M) (gX9_nextWord_121 S fu p0 x1 x2 M) := by
  induction fu with
  | zero => intro p0 x1 x2 M; exact AJ.none
  | succ n ih =>
    intro p0 x1 x2 M
    unfold gX9_nextWord_121
    refine aj_iload_n (2) dX9_nextWord_121 rfl rfl ?_
    refine aj_bipush (v := (20 : Int32)) dX9_nextWord_122 (by decide) ?_
    refine aj_icmp_ge (tgt := 163) dX9_nextWord_124 (by decide) (fun h => ?_) (fun h => ?_)
    · refine AJ.sub [0] rfl ?_
      exact t_X9_nextWord_163 w S (p0) M
    refine aj_aload_n (0) dX9_nextWord_127 rfl rfl ?_
    refine r_getI (TX := TX9) zc9 (by decide) rfl (Or.inl zg_121) dX9_nextWord_128 (fun v1 => ?_)
    refine aj_iconst (v := (2 : Int32)) dX9_nextWord_131 (by decide) ?_
    refine aj_icmp_ne (tgt := 163) dX9_nextWord_132 (by decide) (fun h => ?_) (fun h => ?_)
    · refine AJ.sub [0] rfl ?_
      exact t_X9_nextWord_163 w S (p0) M
    refine aj_aload_n (0) dX9_nextWord_135 rfl rfl ?_
    refine aj_getR (TX := TX9) zc9 (by decide) rfl (Or.inl zg_114) dX9_nextWord_136 (fun r2 => ?_)
    refine aj_iload_n (2) dX9_nextWord_139 rfl rfl ?_
    refine rV_I (as := [.int (x2)]) (c_X5_get w S _ _ _) mv_X5_get rfl zg_640 (by decide) (Nat.le_of_ble_eq_true rfl) dX9_nextWord_140 (fun v3 => ?_)
    refine aj_iload_n (1) dX9_nextWord_143 rfl rfl ?_
    refine aj_icmp_ne (tgt := 157) dX9_nextWord_144 (by decide) (fun h => ?_) (fun h => ?_)
    · refine aj_iinc (j := 2) (v := (x2 + (1 : Int32))) (ls2 := [(2, .int ((x2 + (1 : Int32)))), (0, .ref (p0)), (1, .int (x1))]) dX9_nextWord_157 rfl rfl (Nat.le_of_ble_eq_true rfl) rfl ?_
      refine aj_goto (tgt := 121) dX9_nextWord_160 (by decide) ?_
      refine AJ.sub [1, 2, 0] rfl ?_
      exact ih (p0) (x1) ((x2 + (1 : Int32))) M
    refine aj_aload_n (0) dX9_nextWord_147 rfl rfl ?_
    refine aj_iconst (v := (3 : Int32)) dX9_nextWord_148 (by decide) ?_
    refine r_putI (TX := TX9) zc9 (by decide) rfl rfl rfl rfl (Or.inl zg_121) dX9_nextWord_149 (fun M4 => ?_)
    refine aj_aload_n (0) dX9_nextWord_152 rfl rfl ?_
    refine aj_iload_n (2) dX9_nextWord_153 rfl rfl ?_
    refine r_putI (TX := TX9) zc9 (by decide) rfl rfl rfl rfl (Or.inl zg_123) dX9_nextWord_154 (fun M5 => ?_)
    refine aj_iinc (j := 2) (v := (x2 + (1 : Int32))) (ls2 := [(2, .int ((x2 + (1 : Int32)))), (0, .ref (p0)), (1, .int (x1))]) dX9_nextWord_157 rfl rfl (Nat.le_of_ble_eq_true rfl) rfl ?_
    refine aj_goto (tgt := 121) dX9_nextWord_160 (by decide) ?_
    refine AJ.sub [1, 2, 0] rfl ?_
    exact ih (p0) (x1) ((x2 + (1 : Int32))) M5
def gX9_nextWord_91 (S : List (Nat × Nat)) (p0 : Nat) (x1 : Int32) (M : zM) : Option zM := zgI S M (p0) 9 7 3 (fun v1 => zgI S M (p0) 9 7 4 (fun v2 => (if (v1 - v2) ≤ (6 : Int32) then zpI S M (p0) 9 7 5 ((2 : Int32)) (fun M3 => zpI S M3 (p0) 9 7 6 (x1) (fun M4 => gX9_nextWord_121 S zfu (p0) (x1) ((0 : Int32)) M4)) else zpI S M (p0) 9 7 5 ((1 : Int32)) (fun M5 => zpI S M5 (p0) 9 7 6 (x1) (fun M6 => gX9_nextWord_121 S zfu (p0) (x1) ((0 : Int32)) M6)))))
set_option maxHeartbeats 4000000 in
set_option maxRecDepth 100000 in
theorem t_X9_nextWord_91 (w : zWd) (S : List (Nat × Nat)) (p0 : Nat) (x1 : Int32) (M : zM) : AJ (zfVM S) w 2 mX9_nextWord 91 [(0, .ref (p0)), (1, .int (x1))] [] (S, M) (gX9_nextWord_91 S p0 x1 M) := by
  unfold gX9_nextWord_91
  refine aj_aload_n (0) dX9_nextWord_91 rfl rfl ?_
  refine aj_aload_n (0) dX9_nextWord_92 rfl rfl ?_
  refine r_getI (TX := TX9) zc9 (by decide) rfl (Or.inl zg_117) dX9_nextWord_93 (fun v1 => ?_)
  refine aj_aload_n (0) dX9_nextWord_96 rfl rfl ?_
  refine r_getI (TX := TX9) zc9 (by decide) rfl (Or.inl zg_119) dX9_nextWord_97 (fun v2 => ?_)
  refine aj_isub dX9_nextWord_100 ?_
  refine aj_bipush (v := (6 : Int32)) dX9_nextWord_101 (by decide) ?_
  refine aj_icmp_le (tgt := 110) dX9_nextWord_103 (by decide) (fun h => ?_) (fun h => ?_)
  · refine aj_iconst (v := (2 : Int32)) dX9_nextWord_110 (by decide) ?_
    refine r_putI (TX := TX9) zc9 (by decide) rfl rfl rfl rfl (Or.inl zg_121) dX9_nextWord_111 (fun M3 => ?_)
    refine aj_aload_n (0) dX9_nextWord_114 rfl rfl ?_
    refine aj_iload_n (1) dX9_nextWord_115 rfl rfl ?_
    refine r_putI (TX := TX9) zc9 (by decide) rfl rfl rfl rfl (Or.inl zg_123) dX9_nextWord_116 (fun M4 => ?_)
    refine aj_iconst (v := (0 : Int32)) dX9_nextWord_119 (by decide) ?_
    refine aj_istore_n (ls2 := [(2, .int ((0 : Int32))), (0, .ref (p0)), (1, .int (x1))]) dX9_nextWord_120 rfl (Nat.le_of_ble_eq_true rfl) rfl ?_
    refine AJ.sub [1, 2, 0] rfl ?_
    exact t_X9_nextWord_121 w S zfu (p0) (x1) ((0 : Int32)) M4
  refine aj_iconst (v := (1 : Int32)) dX9_nextWord_106 (by decide) ?_
  refine aj_goto (tgt := 111) dX9_nextWord_107 (by decide) ?_
  refine r_putI (TX := TX9) zc9 (by decide) rfl rfl rfl rfl (Or.inl zg_121) dX9_nextWord_111 (fun M5 => ?_)
  refine aj_aload_n (0) dX9_nextWord_114 rfl rfl ?_
  refine aj_iload_n (1) dX9_nextWord_115 rfl rfl ?_
  refine r_putI (TX := TX9) zc9 (by decide) rfl rfl rfl rfl (Or.inl zg_123) dX9_nextWord_116 (fun M6 => ?_)
  refine aj_iconst (v := (0 : Int32)) dX9_nextWord_119 (by decide) ?_
  refine aj_istore_n (ls2 := [(2, .int ((0 : Int32))), (0, .ref (p0)), (1, .int (x1))]) dX9_nextWord_120 rfl (Nat.le_of_ble_eq_true rfl) rfl ?_
  refine AJ.sub [1, 2, 0] rfl ?_
  exact t_X9_nextWord_121 w S zfu (p0) (x1) ((0 : Int32)) M6
def gX9_nextWord_2 (S : List (Nat × Nat)) : Nat → Nat → Int32 → zM → Option zM
  | 0 => fun _ _ _ => none
  | n + 1 => fun p0 x1 M => zgI S M (p0) 9 7 3 (fun v1 => zgI S M (p0) 9 7 2 (fun v2 => (if v2 ≤ v1 then gX9_nextWord_91 S (p0) (x1) M else zgR S M (p0) 9 7 1 (fun r3 => zgI S M (p0) 9 7 3 (fun v4 => zrc S (r3) 5 1 ((gX5_get S (r3) (v4) M).bind (fun v5 => (gX9_isLetter S (v5) M).bind (fun v6 => (if v6 = 0 then gX9_nextWord_91 S (p0) (x1) M else zgI S M (p0) 9 7 3 (fun v7 => zgI S M (p0) 9 7 4 (fun v8 => (if (6 : Int32) ≤ (v7 - v8) then zgI S M (p0) 9 7 3 (fun v9 => zpI S M (p0) 9 7 3 ((v9 + (1 : Int32))) (fun M10 => (gX9_nextWord_2 S   n) (p0) (x1) M10)) else zgR S M (p0) 9 7 1 (fun r11 => zgI S M (p0) 9 7 3 (fun v12 => zrc S (r11) 5 1 ((gX5_get S (r11) (v12) M).bind (fun v13 => zgI S M (p0) 9 7 3 (fun v14 => zgI S M (p0) 9 7 4 (fun v15 => zgI S M (p0) 9 7 3 (fun v16 => zpI S M (p0) 9 7 3 ((v16 + (1 : Int32))) (fun M17 => (gX9_nextWord_2 S   n) (p0) ((x1 ||| (((v13 - (97 : Int32)) + (1 : Int32)) <<< (((25 : Int32) - ((5 : Int32) * (v14 - v15))) &&& 31)))) M17))))))))))))))))))))
set_option maxHeartbeats 4000000 in
set_option maxRecDepth 100000 in
theorem t_X9_nextWord_2 (w : zWd) (S : List (Nat × Nat)) (fu : Nat) : ∀ (p0 : Nat) (x1 : Int32) (M : zM), AJ (zfVM S) w 2 mX9_nextWord 2 [(0, .ref (p0)), (1, .int (x1))] [] (S, M) (gX9_nextWord_2 S fu p0 x1 M) := by
  induction fu with
  | zero => intro p0 x1 M; exact AJ.none
  | succ n ih =>
    intro p0 x1 M
    unfold gX9_nextWord_2
    refine aj_aload_n (0) dX9_nextWord_2 rfl rfl ?_
    refine r_getI (TX := TX9) zc9 (by decide) rfl (Or.inl zg_117) dX9_nextWord_3 (fun v1 => ?_)
    refine aj_aload_n (0) dX9_nextWord_6 rfl rfl ?_
    refine r_getI (TX := TX9) zc9 (by decide) rfl (Or.inl zg_116) dX9_nextWord_7 (fun v2 => ?_)
    refine aj_icmp_ge (tgt := 91) dX9_nextWord_10 (by decide) (fun h => ?_) (fun h => ?_)
    · refine AJ.sub [0, 1] rfl ?_
      exact t_X9_nextWord_91 w S (p0) (x1) M
    refine aj_aload_n (0) dX9_nextWord_13 rfl rfl ?_
    refine aj_getR (TX := TX9) zc9 (by decide) rfl (Or.inl zg_115) dX9_nextWord_14 (fun r3 => ?_)
    refine aj_aload_n (0) dX9_nextWord_17 rfl rfl ?_
    refine r_getI (TX := TX9) zc9 (by decide) rfl (Or.inl zg_117) dX9_nextWord_18 (fun v4 => ?_)
    refine rV_I (as := [.int (v4)]) (c_X5_get w S _ _ _) mv_X5_get rfl zg_640 (by decide) (Nat.le_of_ble_eq_true rfl) dX9_nextWord_21 (fun v5 => ?_)
    refine rS_I (as := [.int (v5)]) (c_X9_isLetter w S _ _) ms_X9_isLetter rfl zg_647 (by decide) (Nat.le_of_ble_eq_true rfl) dX9_nextWord_24 (fun v6 => ?_)
    refine aj_if_eq (tgt := 91) dX9_nextWord_27 (by decide) (fun h => ?_) (fun h => ?_)
    · refine AJ.sub [0, 1] rfl ?_
      exact t_X9_nextWord_91 w S (p0) (x1) M
    refine aj_aload_n (0) dX9_nextWord_30 rfl rfl ?_
    refine r_getI (TX := TX9) zc9 (by decide) rfl (Or.inl zg_117) dX9_nextWord_31 (fun v7 => ?_)
    refine aj_aload_n (0) dX9_nextWord_34 rfl rfl ?_
    refine r_getI (TX := TX9) zc9 (by decide) rfl (Or.inl zg_119) dX9_nextWord_35 (fun v8 => ?_)
    refine aj_isub dX9_nextWord_38 ?_
    refine aj_bipush (v := (6 : Int32)) dX9_nextWord_39 (by decide) ?_
    refine aj_icmp_ge (tgt := 78) dX9_nextWord_41 (by decide) (fun h => ?_) (fun h => ?_)
    · refine aj_aload_n (0) dX9_nextWord_78 rfl rfl ?_
      refine aj_dup dX9_nextWord_79 rfl ?_
      refine r_getI (TX := TX9) zc9 (by decide) rfl (Or.inl zg_117) dX9_nextWord_80 (fun v9 => ?_)
      refine aj_iconst (v := (1 : Int32)) dX9_nextWord_83 (by decide) ?_
      refine aj_iadd dX9_nextWord_84 ?_
      refine r_putI (TX := TX9) zc9 (by decide) rfl rfl rfl rfl (Or.inl zg_117) dX9_nextWord_85 (fun M10 => ?_)
      refine aj_goto (tgt := 2) dX9_nextWord_88 (by decide) ?_
      refine AJ.sub [0, 1] rfl ?_
      exact ih (p0) (x1) M10
    refine aj_iload_n (1) dX9_nextWord_44 rfl rfl ?_
    refine aj_aload_n (0) dX9_nextWord_45 rfl rfl ?_
    refine aj_getR (TX := TX9) zc9 (by decide) rfl (Or.inl zg_115) dX9_nextWord_46 (fun r11 => ?_)
    refine aj_aload_n (0) dX9_nextWord_49 rfl rfl ?_
    refine r_getI (TX := TX9) zc9 (by decide) rfl (Or.inl zg_117) dX9_nextWord_50 (fun v12 => ?_)
    refine rV_I (as := [.int (v12)]) (c_X5_get w S _ _ _) mv_X5_get rfl zg_640 (by decide) (Nat.le_of_ble_eq_true rfl) dX9_nextWord_53 (fun v13 => ?_)
    refine aj_bipush (v := (97 : Int32)) dX9_nextWord_56 (by decide) ?_
    refine aj_isub dX9_nextWord_58 ?_
    refine aj_iconst (v := (1 : Int32)) dX9_nextWord_59 (by decide) ?_
    refine aj_iadd dX9_nextWord_60 ?_
    refine aj_bipush (v := (25 : Int32)) dX9_nextWord_61 (by decide) ?_
    refine aj_iconst (v := (5 : Int32)) dX9_nextWord_63 (by decide) ?_
    refine aj_aload_n (0) dX9_nextWord_64 rfl rfl ?_
    refine r_getI (TX := TX9) zc9 (by decide) rfl (Or.inl zg_117) dX9_nextWord_65 (fun v14 => ?_)
    refine aj_aload_n (0) dX9_nextWord_68 rfl rfl ?_
    refine r_getI (TX := TX9) zc9 (by decide) rfl (Or.inl zg_119) dX9_nextWord_69 (fun v15 => ?_)
    refine aj_isub dX9_nextWord_72 ?_
    refine aj_imul dX9_nextWord_73 ?_
    refine aj_isub dX9_nextWord_74 ?_
    refine aj_ishl dX9_nextWord_75 ?_
    refine aj_ior dX9_nextWord_76 ?_
    refine aj_istore_n (ls2 := [(1, .int ((x1 ||| (((v13 - (97 : Int32)) + (1 : Int32)) <<< (((25 : Int32) - ((5 : Int32) * (v14 - v15))) &&& 31))))), (0, .ref (p0))]) dX9_nextWord_77 rfl (Nat.le_of_ble_eq_true rfl) rfl ?_
    refine aj_aload_n (1) dX9_nextWord_78 rfl rfl ?_
    refine aj_dup dX9_nextWord_79 rfl ?_
    refine r_getI (TX := TX9) zc9 (by decide) rfl (Or.inl zg_117) dX9_nextWord_80 (fun v16 => ?_)
    refine aj_iconst (v := (1 : Int32)) dX9_nextWord_83 (by decide) ?_
    refine aj_iadd dX9_nextWord_84 ?_
    refine r_putI (TX := TX9) zc9 (by decide) rfl rfl rfl rfl (Or.inl zg_117) dX9_nextWord_85 (fun M17 => ?_)
    refine aj_goto (tgt := 2) dX9_nextWord_88 (by decide) ?_
    refine AJ.sub [1, 0] rfl ?_
    exact ih (p0) ((x1 ||| (((v13 - (97 : Int32)) + (1 : Int32)) <<< (((25 : Int32) - ((5 : Int32) * (v14 - v15))) &&& 31)))) M17
def gX9_nextWord (S : List (Nat × Nat)) (p0 : Nat) (M : zM) : Option zM := gX9_nextWord_2 S zfu (p0) ((0 : Int32)) M
set_option maxHeartbeats 4000000 in
set_option maxRecDepth 100000 in
theorem c_X9_nextWord (w : zWd) (S : List (Nat × Nat)) (p0 : Nat) (M : zM) : CT (zfVM S) w 2 mX9_nextWord [.ref (p0)] (S, M) (gX9_nextWord S p0 M) := by
  refine CT.of (by decide) (Nat.le_of_ble_eq_true rfl) ?_
  show AJ _ _ _ _ 0 [(0, .ref (p0))] [] _ _
  unfold gX9_nextWord
  refine aj_iconst (v := (0 : Int32)) dX9_nextWord_0 (by decide) ?_
  refine aj_istore_n (ls2 := [(1, .int ((0 : Int32))), (0, .ref (p0))]) dX9_nextWord_1 rfl (Nat.le_of_ble_eq_true rfl) rfl ?_
  refine AJ.sub [1, 0] rfl ?_
  exact t_X9_nextWord_2 w S zfu (p0) ((0 : Int32)) M
def gX9_next_41 (S : List (Nat × Nat)) (p0 : Nat) (M : zM) : Option zM := zgI S M (p0) 9 7 3 (fun v1 => zpI S M (p0) 9 7 4 (v1) (fun M2 => zgR S M2 (p0) 9 7 1 (fun r3 => zgI S M2 (p0) 9 7 3 (fun v4 => zrc S (r3) 5 1 ((gX5_get S (r3) (v4) M2).bind (fun v5 => zgI S M2 (p0) 9 7 3 (fun v6 => zgI S M2 (p0) 9 7 2 (fun v7 => (if v6 < v7 then (gX9_isLetter S (v5) M2).bind (fun v8 => (if v8 = 0 then (gX9_isDigit S (v5) M2).bind (fun v9 => (if v9 = 0 then zrc S (p0) 9 7 ((gX9_nextSign S (p0) (v5) M2).bind (fun M10 => some M10)) else zrc S (p0) 9 7 ((gX9_nextNumber S (p0) M2).bind (fun M11 => some M11)))) else zrc S (p0) 9 7 ((gX9_nextWord S (p0) M2).bind (fun M12 => some M12)))) else zpI S M2 (p0) 9 7 5 ((0 : Int32)) (fun M13 => some M13))))))))))
set_option maxHeartbeats 4000000 in
set_option maxRecDepth 100000 in
theorem t_X9_next_41 (w : zWd) (S : List (Nat × Nat)) (p0 : Nat) (M : zM) : AJ (zfVM S) w 3 mX9_next 41 [(0, .ref (p0))] [] (S, M) (gX9_next_41 S p0 M) := by
  unfold gX9_next_41
  refine aj_aload_n (0) dX9_next_41 rfl rfl ?_
  refine aj_aload_n (0) dX9_next_42 rfl rfl ?_
  refine r_getI (TX := TX9) zc9 (by decide) rfl (Or.inl zg_117) dX9_next_43 (fun v1 => ?_)
  refine r_putI (TX := TX9) zc9 (by decide) rfl rfl rfl rfl (Or.inl zg_119) dX9_next_46 (fun M2 => ?_)
  refine aj_aload_n (0) dX9_next_49 rfl rfl ?_
  refine aj_getR (TX := TX9) zc9 (by decide) rfl (Or.inl zg_115) dX9_next_50 (fun r3 => ?_)
  refine aj_aload_n (0) dX9_next_53 rfl rfl ?_
  refine r_getI (TX := TX9) zc9 (by decide) rfl (Or.inl zg_117) dX9_next_54 (fun v4 => ?_)
  refine rV_I (as := [.int (v4)]) (c_X5_get w S _ _ _) mv_X5_get rfl zg_640 (by decide) (Nat.le_of_ble_eq_true rfl) dX9_next_57 (fun v5 => ?_)
  refine aj_istore_n (ls2 := [(1, .int (v5)), (0, .ref (p0))]) dX9_next_60 rfl (Nat.le_of_ble_eq_true rfl) rfl ?_
  refine aj_aload_n (1) dX9_next_61 rfl rfl ?_
  refine r_getI (TX := TX9) zc9 (by decide) rfl (Or.inl zg_117) dX9_next_62 (fun v6 => ?_)
  refine aj_aload_n (1) dX9_next_65 rfl rfl ?_
  refine r_getI (TX := TX9) zc9 (by decide) rfl (Or.inl zg_116) dX9_next_66 (fun v7 => ?_)
  refine aj_icmp_lt (tgt := 80) dX9_next_69 (by decide) (fun h => ?_) (fun h => ?_)
  · refine aj_iload_n (0) dX9_next_80 rfl rfl ?_
    refine rS_I (as := [.int (v5)]) (c_X9_isLetter w S _ _) ms_X9_isLetter rfl zg_647 (by decide) (Nat.le_of_ble_eq_true rfl) dX9_next_81 (fun v8 => ?_)
    refine aj_if_eq (tgt := 94) dX9_next_84 (by decide) (fun h => ?_) (fun h => ?_)
    · refine aj_iload_n (0) dX9_next_94 rfl rfl ?_
      refine rS_I (as := [.int (v5)]) (c_X9_isDigit w S _ _) ms_X9_isDigit rfl zg_654 (by decide) (Nat.le_of_ble_eq_true rfl) dX9_next_95 (fun v9 => ?_)
      refine aj_if_eq (tgt := 108) dX9_next_98 (by decide) (fun h => ?_) (fun h => ?_)
      · refine aj_aload_n (1) dX9_next_108 rfl rfl ?_
        refine aj_iload_n (0) dX9_next_109 rfl rfl ?_
        refine rV_VM (as := [.int (v5)]) (c_X9_nextSign w S _ _ _) mv_X9_nextSign rfl zg_665 (by decide) (Nat.le_of_ble_eq_true rfl) dX9_next_110 (fun M10 => ?_)
        exact aj_vret dX9_next_113 rfl rfl
      refine aj_aload_n (1) dX9_next_101 rfl rfl ?_
      refine rV_VM (as := []) (c_X9_nextNumber w S _ _) mv_X9_nextNumber rfl zg_657 (by decide) (Nat.le_of_ble_eq_true rfl) dX9_next_102 (fun M11 => ?_)
      refine aj_goto (tgt := 113) dX9_next_105 (by decide) ?_
      exact aj_vret dX9_next_113 rfl rfl
    refine aj_aload_n (1) dX9_next_87 rfl rfl ?_
    refine rV_VM (as := []) (c_X9_nextWord w S _ _) mv_X9_nextWord rfl zg_650 (by decide) (Nat.le_of_ble_eq_true rfl) dX9_next_88 (fun M12 => ?_)
    refine aj_goto (tgt := 113) dX9_next_91 (by decide) ?_
    exact aj_vret dX9_next_113 rfl rfl
  refine aj_aload_n (1) dX9_next_72 rfl rfl ?_
  refine aj_iconst (v := (0 : Int32)) dX9_next_73 (by decide) ?_
  refine r_putI (TX := TX9) zc9 (by decide) rfl rfl rfl rfl (Or.inl zg_121) dX9_next_74 (fun M13 => ?_)
  refine aj_goto (tgt := 113) dX9_next_77 (by decide) ?_
  exact aj_vret dX9_next_113 rfl rfl
def gX9_next_0 (S : List (Nat × Nat)) : Nat → Nat → zM → Option zM
  | 0 => fun _ _ => none
  | n + 1 => fun p0 M => zgI S M (p0) 9 7 3 (fun v1 => zgI S M (p0) 9 7 2 (fun v2 => (if v2 ≤ v1 then gX9_next_41 S (p0) M else zgR S M (p0) 9 7 1 (fun r3 => zgI S M (p0) 9 7 3 (fun v4 => zrc S (r3) 5 1 ((gX5_get S (r3) (v4) M).bind (fun v5 => (gX9_isBlank S (v5) M).bind (fun v6 => (if v6 = 0 then gX9_next_41 S (p0) M else zgI S M (p0) 9 7 3 (fun v7 => zpI S M (p0) 9 7 3 ((v7 + (1 : Int32))) (fun M8 => (gX9_next_0 S   n) (p0) M8)))))))))))
set_option maxHeartbeats 4000000 in
set_option maxRecDepth 100000 in
theorem t_X9_next_0 (w : zWd) (S : List (Nat × Nat)) (fu : Nat) : ∀ (p0 : Nat) (M : zM), AJ (zfVM S) w 3 mX9_next 0 [(0, .ref (p0))] [] (S, M) (gX9_next_0 S fu p0 M) := by
  induction fu with
  | zero => intro p0 M; exact AJ.none
  | succ n ih =>
    intro p0 M
    unfold gX9_next_0
    refine aj_aload_n (0) dX9_next_0 rfl rfl ?_
    refine r_getI (TX := TX9) zc9 (by decide) rfl (Or.inl zg_117) dX9_next_1 (fun v1 => ?_)
    refine aj_aload_n (0) dX9_next_4 rfl rfl ?_
    refine r_getI (TX := TX9) zc9 (by decide) rfl (Or.inl zg_116) dX9_next_5 (fun v2 => ?_)
    refine aj_icmp_ge (tgt := 41) dX9_next_8 (by decide) (fun h => ?_) (fun h => ?_)
    · refine AJ.sub [0] rfl ?_
      exact t_X9_next_41 w S (p0) M
    refine aj_aload_n (0) dX9_next_11 rfl rfl ?_
    refine aj_getR (TX := TX9) zc9 (by decide) rfl (Or.inl zg_115) dX9_next_12 (fun r3 => ?_)
    refine aj_aload_n (0) dX9_next_15 rfl rfl ?_
    refine r_getI (TX := TX9) zc9 (by decide) rfl (Or.inl zg_117) dX9_next_16 (fun v4 => ?_)
    refine rV_I (as := [.int (v4)]) (c_X5_get w S _ _ _) mv_X5_get rfl zg_640 (by decide) (Nat.le_of_ble_eq_true rfl) dX9_next_19 (fun v5 => ?_)
    refine rS_I (as := [.int (v5)]) (c_X9_isBlank w S _ _) ms_X9_isBlank rfl zg_644 (by decide) (Nat.le_of_ble_eq_true rfl) dX9_next_22 (fun v6 => ?_)
    refine aj_if_eq (tgt := 41) dX9_next_25 (by decide) (fun h => ?_) (fun h => ?_)
    · refine AJ.sub [0] rfl ?_
      exact t_X9_next_41 w S (p0) M
    refine aj_aload_n (0) dX9_next_28 rfl rfl ?_
    refine aj_dup dX9_next_29 rfl ?_
    refine r_getI (TX := TX9) zc9 (by decide) rfl (Or.inl zg_117) dX9_next_30 (fun v7 => ?_)
    refine aj_iconst (v := (1 : Int32)) dX9_next_33 (by decide) ?_
    refine aj_iadd dX9_next_34 ?_
    refine r_putI (TX := TX9) zc9 (by decide) rfl rfl rfl rfl (Or.inl zg_117) dX9_next_35 (fun M8 => ?_)
    refine aj_goto (tgt := 0) dX9_next_38 (by decide) ?_
    refine AJ.sub [0] rfl ?_
    exact ih (p0) M8
def gX9_next (S : List (Nat × Nat)) (p0 : Nat) (M : zM) : Option zM := gX9_next_0 S zfu (p0) M
set_option maxHeartbeats 4000000 in
set_option maxRecDepth 100000 in
theorem c_X9_next (w : zWd) (S : List (Nat × Nat)) (p0 : Nat) (M : zM) : CT (zfVM S) w 3 mX9_next [.ref (p0)] (S, M) (gX9_next S p0 M) := by
  refine CT.of (by decide) (Nat.le_of_ble_eq_true rfl) ?_
  show AJ _ _ _ _ 0 [(0, .ref (p0))] [] _ _
  unfold gX9_next
  refine AJ.sub [0] rfl ?_
  exact t_X9_next_0 w S zfu (p0) M
def gX9_begin (S : List (Nat × Nat)) (p0 : Nat) (p1 : Nat) (x2 : Int32) (M : zM) : Option zM := zpR S M (p0) 9 7 1 (some (p1)) (fun M1 => zpI S M1 (p0) 9 7 2 (x2) (fun M2 => zpI S M2 (p0) 9 7 3 ((0 : Int32)) (fun M3 => zrc S (p0) 9 7 ((gX9_next S (p0) M3).bind (fun M4 => some M4)))))
set_option maxHeartbeats 4000000 in
set_option maxRecDepth 100000 in
theorem c_X9_begin (w : zWd) (S : List (Nat × Nat)) (p0 : Nat) (p1 : Nat) (x2 : Int32) (M : zM) : CT (zfVM S) w 4 mX9_begin [.ref (p0), .ref (p1), .int (x2)] (S, M) (gX9_begin S p0 p1 x2 M) := by
  refine CT.of (by decide) (Nat.le_of_ble_eq_true rfl) ?_
  show AJ _ _ _ _ 0 [(0, .ref (p0)), (1, .ref (p1)), (2, .int (x2))] [] _ _
  unfold gX9_begin
  refine aj_aload_n (0) dX9_begin_0 rfl rfl ?_
  refine aj_aload_n (1) dX9_begin_1 rfl rfl ?_
  refine r_putR (TX := TX9) zc9 (by decide) rfl (Or.inl rfl) (Or.inl zg_115) dX9_begin_2 (fun M1 => ?_)
  refine aj_aload_n (0) dX9_begin_5 rfl rfl ?_
  refine aj_iload_n (2) dX9_begin_6 rfl rfl ?_
  refine r_putI (TX := TX9) zc9 (by decide) rfl rfl rfl rfl (Or.inl zg_116) dX9_begin_7 (fun M2 => ?_)
  refine aj_aload_n (0) dX9_begin_10 rfl rfl ?_
  refine aj_iconst (v := (0 : Int32)) dX9_begin_11 (by decide) ?_
  refine r_putI (TX := TX9) zc9 (by decide) rfl rfl rfl rfl (Or.inl zg_117) dX9_begin_12 (fun M3 => ?_)
  refine aj_aload_n (0) dX9_begin_15 rfl rfl ?_
  refine rV_VM (as := []) (c_X9_next w S _ _) mv_X9_next rfl zg_636 (by decide) (Nat.le_of_ble_eq_true rfl) dX9_begin_16 (fun M4 => ?_)
  exact aj_vret dX9_begin_19 rfl rfl
