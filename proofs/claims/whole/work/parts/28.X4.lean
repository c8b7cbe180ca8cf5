/-! DayOpeners$Plans: functions of its methods and their contracts: written by wip/whole/gen/dec.py -/
def gX4_init_89 : Nat → Nat → Int32 → List (Nat × Nat) → zM → Option zH
  | 0 => fun _ _ _ _ => none
  | n + 1 => fun p0 x1 S M => zgR S M (p0) 4 9 4 (fun r1 => zal S 103 (r1) (fun v2 => (if v2 ≤ x1 then some (S, M) else zgR S M (p0) 4 9 4 (fun r3 => znew S M 7 15 (fun S4 M5 r6 => zmk2 S4 (gX7_init (r6) S4 M5) (fun S7 M8 => zbQ S7 M8 (r3) (x1) (r6) 7 15 (fun M9 => (gX4_init_89   n) (p0) ((x1 + (1 : Int32))) S7 M9)))))))
set_option maxHeartbeats 4000000 in
set_option maxRecDepth 100000 in
theorem t_X4_init_89 (w : zWd) (hz : zSZ w) (hg : w.2.2.2.2.2 = 0) (fu : Nat) : ∀ (p0 : Nat) (x1 : Int32) (S : List (Nat × Nat)) (M : zM), AJ zfC w 5 mX4_init 89 [(0, .ref (p0)), (1, .int (x1))] [] (S, M) (gX4_init_89 fu p0 x1 S M) := by
  induction fu with
  | zero => intro p0 x1 S M; exact AJ.none
  | succ n ih =>
    intro p0 x1 S M
    unfold gX4_init_89
    refine aj_iload_n (1) dX4_init_89 rfl rfl ?_
    refine aj_aload_n (0) dX4_init_90 rfl rfl ?_
    refine aj_getR (TX := TX4) zc4 (by decide) rfl (Or.inl zg_535) dX4_init_91 (fun r1 => ?_)
    refine r_alen (t := 103) (by decide) dX4_init_94 (fun v2 => ?_)
    refine aj_icmp_ge (tgt := 117) dX4_init_95 (by decide) (fun h => ?_) (fun h => ?_)
    · exact aj_vret dX4_init_117 rfl rfl
    refine aj_aload_n (0) dX4_init_98 rfl rfl ?_
    refine aj_getR (TX := TX4) zc4 (by decide) rfl (Or.inl zg_535) dX4_init_99 (fun r3 => ?_)
    refine aj_iload_n (1) dX4_init_102 rfl rfl ?_
    refine r_new (TX := TX7) hg zc7 zg_524 zg_320 zg_12 dX4_init_103 (fun S4 M5 r6 => ?_)
    refine aj_dup dX4_init_106 rfl ?_
    refine rC (as := []) hg (c_X7_init w hz hg _ _ _) mc_X7_init rfl (Or.inr ⟨_, zn_528⟩) (by decide) (Nat.le_of_ble_eq_true rfl) dX4_init_107 (fun S7 M8 => ?_)
    refine r_aast (TX := TX7) zc7 rfl dX4_init_110 (fun M9 => ?_)
    refine aj_iinc (j := 1) (v := (x1 + (1 : Int32))) (ls2 := [(1, .int ((x1 + (1 : Int32)))), (0, .ref (p0))]) dX4_init_111 rfl rfl (Nat.le_of_ble_eq_true rfl) rfl ?_
    refine aj_goto (tgt := 89) dX4_init_114 (by decide) ?_
    refine AJ.sub [1, 0] rfl ?_
    exact ih (p0) ((x1 + (1 : Int32))) S7 M9
def gX4_init (p0 : Nat) (S : List (Nat × Nat)) (M : zM) : Option zH := znew S M 5 1 (fun S1 M2 r3 => zmk2 S1 (gX5_init (r3) ((6 : Int32)) S1 M2) (fun S4 M5 => zpR S4 M5 (p0) 4 9 0 (some (r3)) (fun M6 => znew S4 M6 5 1 (fun S7 M8 r9 => zmk2 S7 (gX5_init (r9) ((6 : Int32)) S7 M8) (fun S10 M11 => zpR S10 M11 (p0) 4 9 1 (some (r9)) (fun M12 => znew S10 M12 5 1 (fun S13 M14 r15 => zmk2 S13 (gX5_init (r15) ((6 : Int32)) S13 M14) (fun S16 M17 => zpR S16 M17 (p0) 4 9 2 (some (r15)) (fun M18 => znew S16 M18 5 1 (fun S19 M20 r21 => zmk2 S19 (gX5_init (r21) ((6 : Int32)) S19 M20) (fun S22 M23 => zpR S22 M23 (p0) 4 9 3 (some (r21)) (fun M24 => znar S22 M24 103 ((7 : Int32)) (fun S25 M26 r27 => zpR S25 M26 (p0) 4 9 4 (some (r27)) (fun M28 => znew S25 M28 10 18 (fun S29 M30 r31 => zmk2 S29 (gX10_init (r31) S29 M30) (fun S32 M33 => zpR S32 M33 (p0) 4 9 7 (some (r31)) (fun M34 => znew S32 M34 7 15 (fun S35 M36 r37 => zmk2 S35 (gX7_init (r37) S35 M36) (fun S38 M39 => zpR S38 M39 (p0) 4 9 8 (some (r37)) (fun M40 => gX4_init_89 zfu (p0) ((0 : Int32)) S38 M40))))))))))))))))))))
set_option maxHeartbeats 4000000 in
set_option maxRecDepth 100000 in
theorem c_X4_init (w : zWd) (hz : zSZ w) (hg : w.2.2.2.2.2 = 0) (p0 : Nat) (S : List (Nat × Nat)) (M : zM) : CT zfC w 5 mX4_init [.ref (p0)] (S, M) (gX4_init p0 S M) := by
  refine CT.of (by decide) (Nat.le_of_ble_eq_true rfl) ?_
  show AJ _ _ _ _ 0 [(0, .ref (p0))] [] _ _
  unfold gX4_init
  refine aj_aload_n (0) dX4_init_0 rfl rfl ?_
  refine aj_obj zg_521 zg_31 zg_32 (by decide) (Nat.le_of_ble_eq_true rfl) dX4_init_1 ?_
  refine aj_aload_n (0) dX4_init_4 rfl rfl ?_
  refine r_new (TX := TX5) hg zc5 zg_522 zg_34 zg_2 dX4_init_5 (fun S1 M2 r3 => ?_)
  refine aj_dup dX4_init_8 rfl ?_
  refine aj_bipush (v := (6 : Int32)) dX4_init_9 (by decide) ?_
  refine rC (as := [.int ((6 : Int32))]) hg (c_X5_init w hz hg _ _ _ _) mc_X5_init rfl (Or.inl zg_523) (by decide) (Nat.le_of_ble_eq_true rfl) dX4_init_11 (fun S4 M5 => ?_)
  refine r_putR (TX := TX4) zc4 (by decide) rfl (Or.inr ⟨rfl, rfl, rfl, zg_529⟩) (Or.inl zg_529) dX4_init_14 (fun M6 => ?_)
  refine aj_aload_n (0) dX4_init_17 rfl rfl ?_
  refine r_new (TX := TX5) hg zc5 zg_522 zg_34 zg_2 dX4_init_18 (fun S7 M8 r9 => ?_)
  refine aj_dup dX4_init_21 rfl ?_
  refine aj_bipush (v := (6 : Int32)) dX4_init_22 (by decide) ?_
  refine rC (as := [.int ((6 : Int32))]) hg (c_X5_init w hz hg _ _ _ _) mc_X5_init rfl (Or.inl zg_523) (by decide) (Nat.le_of_ble_eq_true rfl) dX4_init_24 (fun S10 M11 => ?_)
  refine r_putR (TX := TX4) zc4 (by decide) rfl (Or.inr ⟨rfl, rfl, rfl, zg_531⟩) (Or.inl zg_531) dX4_init_27 (fun M12 => ?_)
  refine aj_aload_n (0) dX4_init_30 rfl rfl ?_
  refine r_new (TX := TX5) hg zc5 zg_522 zg_34 zg_2 dX4_init_31 (fun S13 M14 r15 => ?_)
  refine aj_dup dX4_init_34 rfl ?_
  refine aj_bipush (v := (6 : Int32)) dX4_init_35 (by decide) ?_
  refine rC (as := [.int ((6 : Int32))]) hg (c_X5_init w hz hg _ _ _ _) mc_X5_init rfl (Or.inl zg_523) (by decide) (Nat.le_of_ble_eq_true rfl) dX4_init_37 (fun S16 M17 => ?_)
  refine r_putR (TX := TX4) zc4 (by decide) rfl (Or.inr ⟨rfl, rfl, rfl, zg_532⟩) (Or.inl zg_532) dX4_init_40 (fun M18 => ?_)
  refine aj_aload_n (0) dX4_init_43 rfl rfl ?_
  refine r_new (TX := TX5) hg zc5 zg_522 zg_34 zg_2 dX4_init_44 (fun S19 M20 r21 => ?_)
  refine aj_dup dX4_init_47 rfl ?_
  refine aj_bipush (v := (6 : Int32)) dX4_init_48 (by decide) ?_
  refine rC (as := [.int ((6 : Int32))]) hg (c_X5_init w hz hg _ _ _ _) mc_X5_init rfl (Or.inl zg_523) (by decide) (Nat.le_of_ble_eq_true rfl) dX4_init_50 (fun S22 M23 => ?_)
  refine r_putR (TX := TX4) zc4 (by decide) rfl (Or.inr ⟨rfl, rfl, rfl, zg_534⟩) (Or.inl zg_534) dX4_init_53 (fun M24 => ?_)
  refine aj_aload_n (0) dX4_init_56 rfl rfl ?_
  refine aj_bipush (v := (7 : Int32)) dX4_init_57 (by decide) ?_
  refine r_newq hg (fun s h => (hz s h).1) zg_524 dX4_init_59 (fun S25 M26 r27 => ?_)
  refine r_putR (TX := TX4) zc4 (by decide) rfl (Or.inr ⟨rfl, rfl, rfl, zg_535⟩) (Or.inl zg_535) dX4_init_62 (fun M28 => ?_)
  refine aj_aload_n (0) dX4_init_65 rfl rfl ?_
  refine r_new (TX := TX10) hg zc10 zg_526 zg_141 zg_10 dX4_init_66 (fun S29 M30 r31 => ?_)
  refine aj_dup dX4_init_69 rfl ?_
  refine rC (as := []) hg (c_X10_init w hz hg _ _ _) mc_X10_init rfl (Or.inr ⟨_, zn_527⟩) (by decide) (Nat.le_of_ble_eq_true rfl) dX4_init_70 (fun S32 M33 => ?_)
  refine r_putR (TX := TX4) zc4 (by decide) rfl (Or.inl rfl) (Or.inl zg_539) dX4_init_73 (fun M34 => ?_)
  refine aj_aload_n (0) dX4_init_76 rfl rfl ?_
  refine r_new (TX := TX7) hg zc7 zg_524 zg_320 zg_12 dX4_init_77 (fun S35 M36 r37 => ?_)
  refine aj_dup dX4_init_80 rfl ?_
  refine rC (as := []) hg (c_X7_init w hz hg _ _ _) mc_X7_init rfl (Or.inr ⟨_, zn_528⟩) (by decide) (Nat.le_of_ble_eq_true rfl) dX4_init_81 (fun S38 M39 => ?_)
  refine r_putR (TX := TX4) zc4 (by decide) rfl (Or.inl rfl) (Or.inl zg_540) dX4_init_84 (fun M40 => ?_)
  refine aj_iconst (v := (0 : Int32)) dX4_init_87 (by decide) ?_
  refine aj_istore_n (ls2 := [(1, .int ((0 : Int32))), (0, .ref (p0))]) dX4_init_88 rfl (Nat.le_of_ble_eq_true rfl) rfl ?_
  refine AJ.sub [1, 0] rfl ?_
  exact t_X4_init_89 w hz hg zfu (p0) ((0 : Int32)) S38 M40
def gX4_allDone_27 (S : List (Nat × Nat)) (k2 : Nat → Int32 → zM → Option Int32) : Nat → Nat → Int32 → Int32 → Int32 → zM → Option Int32
  | 0 => fun _ _ _ _ _ => none
  | n + 1 => fun p0 x1 x2 x3 M => zgR S M (p0) 4 9 7 (fun r1 => zgI S M (r1) 10 18 1 (fun v2 => (if v2 ≤ x3 then zgR S M (p0) 4 9 7 (fun r3 => zgR S M (r3) 10 18 14 (fun r4 => zrc S (r4) 5 1 ((gX5_get S (r4) (x1) M).bind (fun v5 => (if v5 ≤ x2 then k2 (p0) ((x1 + (1 : Int32))) M else some ((0 : Int32))))))) else zgR S M (p0) 4 9 1 (fun r6 => zrc S (r6) 5 1 ((gX5_get S (r6) (x3) M).bind (fun v7 => (if ((v7 >>> (x1 &&& 31)) &&& (1 : Int32)) = (1 : Int32) then zgR S M (p0) 4 9 0 (fun r8 => zrc S (r8) 5 1 ((gX5_get S (r8) (x3) M).bind (fun v9 => (gX4_allDone_27 S  k2 n) (p0) (x1) ((x2 + v9)) ((x3 + (1 : Int32))) M))) else (gX4_allDone_27 S  k2 n) (p0) (x1) ((x2 + (0 : Int32))) ((x3 + (1 : Int32))) M)))))))
set_option maxHeartbeats 4000000 in
set_option maxRecDepth 100000 in
theorem t_X4_allDone_27 (w : zWd) (S : List (Nat × Nat)) (k2 : Nat → Int32 → zM → Option Int32) (hk2 : ∀ (p0 : Nat) (x1 : Int32) (M : zM), AJ (zfI S M) w 2 mX4_allDone 2 [(0, .ref (p0)), (1, .int (x1))] [] (S, M) (k2 p0 x1 M)) (fu : Nat) : ∀ (p0 : Nat) (x1 : Int32) (x2 : Int32) (x3 : Int32) (M : zM), AJ (zfI S M) w 2 mX4_allDone 27 [(0, .ref (p0)), (1, .int (x1)), (2, .int (x2)), (3, .int (x3))] [] (S, M) (gX4_allDone_27 S k2 fu p0 x1 x2 x3 M) := by
  induction fu with
  | zero => intro p0 x1 x2 x3 M; exact AJ.none
  | succ n ih =>
    intro p0 x1 x2 x3 M
    unfold gX4_allDone_27
    refine aj_iload_n (3) dX4_allDone_27 rfl rfl ?_
    refine aj_aload_n (0) dX4_allDone_28 rfl rfl ?_
    refine aj_getR (TX := TX4) zc4 (by decide) rfl (Or.inl zg_539) dX4_allDone_29 (fun r1 => ?_)
    refine r_getI (TX := TX10) zc10 (by decide) rfl (Or.inr ⟨_, zn_184⟩) dX4_allDone_32 (fun v2 => ?_)
    refine aj_icmp_ge (tgt := 75) dX4_allDone_35 (by decide) (fun h => ?_) (fun h => ?_)
    · refine aj_iload_n (2) dX4_allDone_75 rfl rfl ?_
      refine aj_aload_n (0) dX4_allDone_76 rfl rfl ?_
      refine aj_getR (TX := TX4) zc4 (by decide) rfl (Or.inl zg_539) dX4_allDone_77 (fun r3 => ?_)
      refine aj_getR (TX := TX10) zc10 (by decide) rfl (Or.inr ⟨_, zn_230⟩) dX4_allDone_80 (fun r4 => ?_)
      refine aj_iload_n (1) dX4_allDone_83 rfl rfl ?_
      refine rV_I (as := [.int (x1)]) (c_X5_get w S _ _ _) mv_X5_get rfl zg_1015 (by decide) (Nat.le_of_ble_eq_true rfl) dX4_allDone_84 (fun v5 => ?_)
      refine aj_icmp_ge (tgt := 92) dX4_allDone_87 (by decide) (fun h => ?_) (fun h => ?_)
      · refine aj_iinc (j := 1) (v := (x1 + (1 : Int32))) (ls2 := [(1, .int ((x1 + (1 : Int32)))), (0, .ref (p0)), (2, .int (x2)), (3, .int (x3))]) dX4_allDone_92 rfl rfl (Nat.le_of_ble_eq_true rfl) rfl ?_
        refine aj_goto (tgt := 2) dX4_allDone_95 (by decide) ?_
        refine AJ.sub [1, 0] rfl ?_
        exact hk2 (p0) ((x1 + (1 : Int32))) M
      refine aj_iconst (v := (0 : Int32)) dX4_allDone_90 (by decide) ?_
      exact aj_iret dX4_allDone_91 rfl (by decide +kernel) rfl
    refine aj_iload_n (2) dX4_allDone_38 rfl rfl ?_
    refine aj_aload_n (0) dX4_allDone_39 rfl rfl ?_
    refine aj_getR (TX := TX4) zc4 (by decide) rfl (Or.inl zg_531) dX4_allDone_40 (fun r6 => ?_)
    refine aj_iload_n (3) dX4_allDone_43 rfl rfl ?_
    refine rV_I (as := [.int (x3)]) (c_X5_get w S _ _ _) mv_X5_get rfl zg_1015 (by decide) (Nat.le_of_ble_eq_true rfl) dX4_allDone_44 (fun v7 => ?_)
    refine aj_iload_n (1) dX4_allDone_47 rfl rfl ?_
    refine aj_ishr dX4_allDone_48 ?_
    refine aj_iconst (v := (1 : Int32)) dX4_allDone_49 (by decide) ?_
    refine aj_iand dX4_allDone_50 ?_
    refine aj_iconst (v := (1 : Int32)) dX4_allDone_51 (by decide) ?_
    refine aj_icmp_ne (tgt := 66) dX4_allDone_52 (by decide) (fun h => ?_) (fun h => ?_)
    · refine aj_iconst (v := (0 : Int32)) dX4_allDone_66 (by decide) ?_
      refine aj_iadd dX4_allDone_67 ?_
      refine aj_istore_n (ls2 := [(2, .int ((x2 + (0 : Int32)))), (0, .ref (p0)), (1, .int (x1)), (3, .int (x3))]) dX4_allDone_68 rfl (Nat.le_of_ble_eq_true rfl) rfl ?_
      refine aj_iinc (j := 3) (v := (x3 + (1 : Int32))) (ls2 := [(3, .int ((x3 + (1 : Int32)))), (2, .int ((x2 + (0 : Int32)))), (0, .ref (p0)), (1, .int (x1))]) dX4_allDone_69 rfl rfl (Nat.le_of_ble_eq_true rfl) rfl ?_
      refine aj_goto (tgt := 27) dX4_allDone_72 (by decide) ?_
      refine AJ.sub [2, 3, 1, 0] rfl ?_
      exact ih (p0) (x1) ((x2 + (0 : Int32))) ((x3 + (1 : Int32))) M
    refine aj_aload_n (0) dX4_allDone_55 rfl rfl ?_
    refine aj_getR (TX := TX4) zc4 (by decide) rfl (Or.inl zg_529) dX4_allDone_56 (fun r8 => ?_)
    refine aj_iload_n (3) dX4_allDone_59 rfl rfl ?_
    refine rV_I (as := [.int (x3)]) (c_X5_get w S _ _ _) mv_X5_get rfl zg_1015 (by decide) (Nat.le_of_ble_eq_true rfl) dX4_allDone_60 (fun v9 => ?_)
    refine aj_goto (tgt := 67) dX4_allDone_63 (by decide) ?_
    refine aj_iadd dX4_allDone_67 ?_
    refine aj_istore_n (ls2 := [(2, .int ((x2 + v9))), (0, .ref (p0)), (1, .int (x1)), (3, .int (x3))]) dX4_allDone_68 rfl (Nat.le_of_ble_eq_true rfl) rfl ?_
    refine aj_iinc (j := 3) (v := (x3 + (1 : Int32))) (ls2 := [(3, .int ((x3 + (1 : Int32)))), (2, .int ((x2 + v9))), (0, .ref (p0)), (1, .int (x1))]) dX4_allDone_69 rfl rfl (Nat.le_of_ble_eq_true rfl) rfl ?_
    refine aj_goto (tgt := 27) dX4_allDone_72 (by decide) ?_
    refine AJ.sub [2, 3, 1, 0] rfl ?_
    exact ih (p0) (x1) ((x2 + v9)) ((x3 + (1 : Int32))) M
def gX4_allDone_2 (S : List (Nat × Nat)) : Nat → Nat → Int32 → zM → Option Int32
  | 0 => fun _ _ _ => none
  | n + 1 => fun p0 x1 M => zgR S M (p0) 4 9 7 (fun r1 => zgI S M (r1) 10 18 10 (fun v2 => (if v2 ≤ x1 then some ((1 : Int32)) else zgR S M (p0) 4 9 8 (fun r3 => zgR S M (r3) 7 15 14 (fun r4 => zrc S (r4) 5 1 ((gX5_get S (r4) (x1) M).bind (fun v5 => gX4_allDone_27 S (gX4_allDone_2 S   n) zfu (p0) (x1) (v5) ((0 : Int32)) M)))))))
set_option maxHeartbeats 4000000 in
set_option maxRecDepth 100000 in
theorem t_X4_allDone_2 (w : zWd) (S : List (Nat × Nat)) (fu : Nat) : ∀ (p0 : Nat) (x1 : Int32) (M : zM), AJ (zfI S M) w 2 mX4_allDone 2 [(0, .ref (p0)), (1, .int (x1))] [] (S, M) (gX4_allDone_2 S fu p0 x1 M) := by
  induction fu with
  | zero => intro p0 x1 M; exact AJ.none
  | succ n ih =>
    intro p0 x1 M
    unfold gX4_allDone_2
    refine aj_iload_n (1) dX4_allDone_2 rfl rfl ?_
    refine aj_aload_n (0) dX4_allDone_3 rfl rfl ?_
    refine aj_getR (TX := TX4) zc4 (by decide) rfl (Or.inl zg_539) dX4_allDone_4 (fun r1 => ?_)
    refine r_getI (TX := TX10) zc10 (by decide) rfl (Or.inr ⟨_, zn_214⟩) dX4_allDone_7 (fun v2 => ?_)
    refine aj_icmp_ge (tgt := 98) dX4_allDone_10 (by decide) (fun h => ?_) (fun h => ?_)
    · refine aj_iconst (v := (1 : Int32)) dX4_allDone_98 (by decide) ?_
      exact aj_iret dX4_allDone_99 rfl (by decide +kernel) rfl
    refine aj_aload_n (0) dX4_allDone_13 rfl rfl ?_
    refine aj_getR (TX := TX4) zc4 (by decide) rfl (Or.inl zg_540) dX4_allDone_14 (fun r3 => ?_)
    refine aj_getR (TX := TX7) zc7 (by decide) rfl (Or.inr ⟨_, zn_374⟩) dX4_allDone_17 (fun r4 => ?_)
    refine aj_iload_n (1) dX4_allDone_20 rfl rfl ?_
    refine rV_I (as := [.int (x1)]) (c_X5_get w S _ _ _) mv_X5_get rfl zg_1015 (by decide) (Nat.le_of_ble_eq_true rfl) dX4_allDone_21 (fun v5 => ?_)
    refine aj_istore_n (ls2 := [(2, .int (v5)), (0, .ref (p0)), (1, .int (x1))]) dX4_allDone_24 rfl (Nat.le_of_ble_eq_true rfl) rfl ?_
    refine aj_iconst (v := (0 : Int32)) dX4_allDone_25 (by decide) ?_
    refine aj_istore_n (ls2 := [(3, .int ((0 : Int32))), (2, .int (v5)), (0, .ref (p0)), (1, .int (x1))]) dX4_allDone_26 rfl (Nat.le_of_ble_eq_true rfl) rfl ?_
    refine AJ.sub [2, 3, 1, 0] rfl ?_
    exact t_X4_allDone_27 w S (gX4_allDone_2 S   n) ih zfu (p0) (x1) (v5) ((0 : Int32)) M
def gX4_allDone (S : List (Nat × Nat)) (p0 : Nat) (M : zM) : Option Int32 := gX4_allDone_2 S zfu (p0) ((0 : Int32)) M
set_option maxHeartbeats 4000000 in
set_option maxRecDepth 100000 in
theorem c_X4_allDone (w : zWd) (S : List (Nat × Nat)) (p0 : Nat) (M : zM) : CT (zfI S M) w 2 mX4_allDone [.ref (p0)] (S, M) (gX4_allDone S p0 M) := by
  refine CT.of (by decide) (Nat.le_of_ble_eq_true rfl) ?_
  show AJ _ _ _ _ 0 [(0, .ref (p0))] [] _ _
  unfold gX4_allDone
  refine aj_iconst (v := (0 : Int32)) dX4_allDone_0 (by decide) ?_
  refine aj_istore_n (ls2 := [(1, .int ((0 : Int32))), (0, .ref (p0))]) dX4_allDone_1 rfl (Nat.le_of_ble_eq_true rfl) rfl ?_
  refine AJ.sub [1, 0] rfl ?_
  exact t_X4_allDone_2 w S zfu (p0) ((0 : Int32)) M
def gX4_spreads_47 (S : List (Nat × Nat)) (rk : Nat → Int32 → Int32 → zM → Option (Int32 × zM)) : Nat → Nat → Int32 → Int32 → Int32 → Int32 → zM → Option (Int32 × zM)
  | 0 => fun _ _ _ _ _ _ => none
  | n + 1 => fun p0 x1 x2 x4 x5 M => (if x5 < x4 then some ((0 : Int32), M) else zgR S M (p0) 4 9 0 (fun r1 => zrc S (r1) 5 1 ((gX5_set S (r1) (x1) (x5) M).bind (fun M2 => zb2 (rk (p0) ((x1 + (1 : Int32))) ((x2 - x5)) M2) (fun v3 M4 => (if v3 = 0 then (gX4_spreads_47 S rk  n) (p0) (x1) (x2) (x4) ((x5 + (-1 : Int32))) M4 else some ((1 : Int32), M4)))))))
set_option maxHeartbeats 4000000 in
set_option maxRecDepth 100000 in
theorem t_X4_spreads_47 (w : zWd) (S : List (Nat × Nat)) (rk : Nat → Int32 → Int32 → zM → Option (Int32 × zM)) (n9 : Nat) (hrk : ∀ (p0 : Nat) (x1 : Int32) (x2 : Int32) (M : zM), CT (zfIM S) w (3 + n9) mX4_spreads [.ref (p0), .int (x1), .int (x2)] (S, M) (rk p0 x1 x2 M)) (fu : Nat) : ∀ (p0 : Nat) (x1 : Int32) (x2 : Int32) (x4 : Int32) (x5 : Int32) (M : zM), AJ (zfIM S) w (3 + n9 + 1) mX4_spreads 47 [(0, .ref (p0)), (1, .int (x1)), (2, .int (x2)), (4, .int (x4)), (5, .int (x5))] [] (S, M) (gX4_spreads_47 S rk fu p0 x1 x2 x4 x5 M) := by
  induction fu with
  | zero => intro p0 x1 x2 x4 x5 M; exact AJ.none
  | succ n ih =>
    intro p0 x1 x2 x4 x5 M
    unfold gX4_spreads_47
    refine aj_iload (4) dX4_spreads_47 rfl ?_
    refine aj_iload (3) dX4_spreads_49 rfl ?_
    refine aj_icmp_lt (tgt := 86) dX4_spreads_51 (by decide) (fun h => ?_) (fun h => ?_)
    · refine aj_iconst (v := (0 : Int32)) dX4_spreads_86 (by decide) ?_
      exact aj_iret dX4_spreads_87 rfl (by decide +kernel) rfl
    refine aj_aload_n (0) dX4_spreads_54 rfl rfl ?_
    refine aj_getR (TX := TX4) zc4 (by decide) rfl (Or.inl zg_529) dX4_spreads_55 (fun r1 => ?_)
    refine aj_iload_n (1) dX4_spreads_58 rfl rfl ?_
    refine aj_iload (4) dX4_spreads_59 rfl ?_
    refine rV_VM (as := [.int (x1), .int (x5)]) (c_X5_set w S _ _ _ _) mv_X5_set rfl zg_1016 (by omega) (Nat.le_of_ble_eq_true rfl) dX4_spreads_61 (fun M2 => ?_)
    refine aj_aload_n (0) dX4_spreads_64 rfl rfl ?_
    refine aj_iload_n (1) dX4_spreads_65 rfl rfl ?_
    refine aj_iconst (v := (1 : Int32)) dX4_spreads_66 (by decide) ?_
    refine aj_iadd dX4_spreads_67 ?_
    refine aj_iload_n (2) dX4_spreads_68 rfl rfl ?_
    refine aj_iload (4) dX4_spreads_69 rfl ?_
    refine aj_isub dX4_spreads_71 ?_
    refine rS_IM (as := [.ref (p0), .int ((x1 + (1 : Int32))), .int ((x2 - x5))]) (hrk _ _ _ _) ms_X4_spreads rfl zg_1017 (by omega) (Nat.le_of_ble_eq_true rfl) dX4_spreads_72 (fun v3 M4 => ?_)
    refine aj_if_eq (tgt := 80) dX4_spreads_75 (by decide) (fun h => ?_) (fun h => ?_)
    · refine aj_iinc (j := 4) (v := (x5 + (-1 : Int32))) (ls2 := [(5, .int ((x5 + (-1 : Int32)))), (0, .ref (p0)), (1, .int (x1)), (2, .int (x2)), (4, .int (x4))]) dX4_spreads_80 rfl rfl (Nat.le_of_ble_eq_true rfl) rfl ?_
      refine aj_goto (tgt := 47) dX4_spreads_83 (by decide) ?_
      refine AJ.sub [1, 2, 3, 4, 0] rfl ?_
      exact ih (p0) (x1) (x2) (x4) ((x5 + (-1 : Int32))) M4
    refine aj_iconst (v := (1 : Int32)) dX4_spreads_78 (by decide) ?_
    exact aj_iret dX4_spreads_79 rfl (by decide +kernel) rfl
def gX4_spreadsB (S : List (Nat × Nat)) (rk : Nat → Int32 → Int32 → zM → Option (Int32 × zM)) (p0 : Nat) (x1 : Int32) (x2 : Int32) (M : zM) : Option (Int32 × zM) := zgR S M (p0) 4 9 7 (fun r1 => zgI S M (r1) 10 18 1 (fun v2 => (if x1 < v2 then (if v2 ≤ (x1 + (1 : Int32)) then gX4_spreads_47 S rk zfu (p0) (x1) (x2) (x2) (x2) M else gX4_spreads_47 S rk zfu (p0) (x1) (x2) ((0 : Int32)) (x2) M) else (if x2 = 0 then zrc S (p0) 4 9 ((gX4_allDone S (p0) M).bind (fun v3 => (if v3 = 0 then some ((0 : Int32), M) else some ((1 : Int32), M)))) else some ((0 : Int32), M)))))
set_option maxHeartbeats 4000000 in
set_option maxRecDepth 100000 in
theorem c_X4_spreadsB (w : zWd) (S : List (Nat × Nat)) (rk : Nat → Int32 → Int32 → zM → Option (Int32 × zM)) (n9 : Nat) (hrk : ∀ (p0 : Nat) (x1 : Int32) (x2 : Int32) (M : zM), CT (zfIM S) w (3 + n9) mX4_spreads [.ref (p0), .int (x1), .int (x2)] (S, M) (rk p0 x1 x2 M)) (p0 : Nat) (x1 : Int32) (x2 : Int32) (M : zM) : CT (zfIM S) w (3 + n9 + 1) mX4_spreads [.ref (p0), .int (x1), .int (x2)] (S, M) (gX4_spreadsB S rk p0 x1 x2 M) := by
  refine CT.of (by decide) (Nat.le_of_ble_eq_true rfl) ?_
  show AJ _ _ _ _ 0 [(0, .ref (p0)), (1, .int (x1)), (2, .int (x2))] [] _ _
  unfold gX4_spreadsB
  refine aj_aload_n (0) dX4_spreads_0 rfl rfl ?_
  refine aj_getR (TX := TX4) zc4 (by decide) rfl (Or.inl zg_539) dX4_spreads_1 (fun r1 => ?_)
  refine r_getI (TX := TX10) zc10 (by decide) rfl (Or.inr ⟨_, zn_184⟩) dX4_spreads_4 (fun v2 => ?_)
  refine aj_istore_n (ls2 := [(3, .int (v2)), (0, .ref (p0)), (1, .int (x1)), (2, .int (x2))]) dX4_spreads_7 rfl (Nat.le_of_ble_eq_true rfl) rfl ?_
  refine aj_iload_n (2) dX4_spreads_8 rfl rfl ?_
  refine aj_iload_n (0) dX4_spreads_9 rfl rfl ?_
  refine aj_icmp_lt (tgt := 30) dX4_spreads_10 (by decide) (fun h => ?_) (fun h => ?_)
  · refine aj_iload_n (2) dX4_spreads_30 rfl rfl ?_
    refine aj_iconst (v := (1 : Int32)) dX4_spreads_31 (by decide) ?_
    refine aj_iadd dX4_spreads_32 ?_
    refine aj_iload_n (0) dX4_spreads_33 rfl rfl ?_
    refine aj_icmp_ge (tgt := 41) dX4_spreads_34 (by decide) (fun h => ?_) (fun h => ?_)
    · refine aj_iload_n (3) dX4_spreads_41 rfl rfl ?_
      refine aj_istore (ls2 := [(4, .int (x2)), (3, .int (v2)), (0, .ref (p0)), (1, .int (x1)), (2, .int (x2))]) dX4_spreads_42 (Nat.le_of_ble_eq_true rfl) rfl ?_
      refine aj_iload_n (4) dX4_spreads_44 rfl rfl ?_
      refine aj_istore (ls2 := [(5, .int (x2)), (4, .int (x2)), (3, .int (v2)), (0, .ref (p0)), (1, .int (x1)), (2, .int (x2))]) dX4_spreads_45 (Nat.le_of_ble_eq_true rfl) rfl ?_
      refine AJ.sub [3, 4, 5, 1, 0] rfl ?_
      exact t_X4_spreads_47 w S rk n9 hrk zfu (p0) (x1) (x2) (x2) (x2) M
    refine aj_iconst (v := (0 : Int32)) dX4_spreads_37 (by decide) ?_
    refine aj_goto (tgt := 42) dX4_spreads_38 (by decide) ?_
    refine aj_istore (ls2 := [(4, .int ((0 : Int32))), (3, .int (v2)), (0, .ref (p0)), (1, .int (x1)), (2, .int (x2))]) dX4_spreads_42 (Nat.le_of_ble_eq_true rfl) rfl ?_
    refine aj_iload_n (4) dX4_spreads_44 rfl rfl ?_
    refine aj_istore (ls2 := [(5, .int (x2)), (4, .int ((0 : Int32))), (3, .int (v2)), (0, .ref (p0)), (1, .int (x1)), (2, .int (x2))]) dX4_spreads_45 (Nat.le_of_ble_eq_true rfl) rfl ?_
    refine AJ.sub [3, 4, 5, 1, 0] rfl ?_
    exact t_X4_spreads_47 w S rk n9 hrk zfu (p0) (x1) (x2) ((0 : Int32)) (x2) M
  refine aj_iload_n (3) dX4_spreads_13 rfl rfl ?_
  refine aj_if_ne (tgt := 28) dX4_spreads_14 (by decide) (fun h => ?_) (fun h => ?_)
  · refine aj_iconst (v := (0 : Int32)) dX4_spreads_28 (by decide) ?_
    exact aj_iret dX4_spreads_29 rfl (by decide +kernel) rfl
  refine aj_aload_n (1) dX4_spreads_17 rfl rfl ?_
  refine rV_I (as := []) (c_X4_allDone w S _ _) mv_X4_allDone rfl zg_1020 (by omega) (Nat.le_of_ble_eq_true rfl) dX4_spreads_18 (fun v3 => ?_)
  refine aj_if_eq (tgt := 28) dX4_spreads_21 (by decide) (fun h => ?_) (fun h => ?_)
  · refine aj_iconst (v := (0 : Int32)) dX4_spreads_28 (by decide) ?_
    exact aj_iret dX4_spreads_29 rfl (by decide +kernel) rfl
  refine aj_iconst (v := (1 : Int32)) dX4_spreads_24 (by decide) ?_
  refine aj_goto (tgt := 29) dX4_spreads_25 (by decide) ?_
  exact aj_iret dX4_spreads_29 rfl (by decide +kernel) rfl
def gX4_spreads (S : List (Nat × Nat)) : Nat → Nat → Int32 → Int32 → zM → Option (Int32 × zM)
  | 0 => fun _ _ _ _ => none
  | n + 1 => fun p0 x1 x2 M => gX4_spreadsB S (gX4_spreads S n) p0 x1 x2 M
theorem c_X4_spreads (w : zWd) (S : List (Nat × Nat)) (n : Nat) : ∀ (p0 : Nat) (x1 : Int32) (x2 : Int32) (M : zM), CT (zfIM S) w (3 + n) mX4_spreads [.ref (p0), .int (x1), .int (x2)] (S, M) (gX4_spreads S n p0 x1 x2 M) := by
  induction n with
  | zero => intro p0 x1 x2 M r h; cases h
  | succ n ih => intro p0 x1 x2 M; exact c_X4_spreadsB w S _ n ih p0 x1 x2 M
def gX4_fewest_121 (S : List (Nat × Nat)) : Nat → Nat → Int32 → zM → Option (Int32 × zM)
  | 0 => fun _ _ _ => none
  | n + 1 => fun p0 x4 M => (if (12 : Int32) < x4 then some ((-2 : Int32), M) else zb2 (gX4_spreads S 12 (p0) ((0 : Int32)) (x4) M) (fun v1 M2 => (if v1 = 0 then (gX4_fewest_121 S   n) (p0) ((x4 + (1 : Int32))) M2 else some (x4, M2))))
set_option maxHeartbeats 4000000 in
set_option maxRecDepth 100000 in
theorem t_X4_fewest_121 (w : zWd) (S : List (Nat × Nat)) (fu : Nat) : ∀ (p0 : Nat) (x4 : Int32) (M : zM), AJ (zfIM S) w 16 mX4_fewest 121 [(0, .ref (p0)), (4, .int (x4))] [] (S, M) (gX4_fewest_121 S fu p0 x4 M) := by
  induction fu with
  | zero => intro p0 x4 M; exact AJ.none
  | succ n ih =>
    intro p0 x4 M
    unfold gX4_fewest_121
    refine aj_iload (1) dX4_fewest_121 rfl ?_
    refine aj_bipush (v := (12 : Int32)) dX4_fewest_123 (by decide) ?_
    refine aj_icmp_gt (tgt := 147) dX4_fewest_125 (by decide) (fun h => ?_) (fun h => ?_)
    · refine aj_bipush (v := (-2 : Int32)) dX4_fewest_147 (by decide) ?_
      exact aj_iret dX4_fewest_149 rfl rfl rfl
    refine aj_aload_n (0) dX4_fewest_128 rfl rfl ?_
    refine aj_iconst (v := (0 : Int32)) dX4_fewest_129 (by decide) ?_
    refine aj_iload (1) dX4_fewest_130 rfl ?_
    refine rS_IM (as := [.ref (p0), .int ((0 : Int32)), .int (x4)]) (c_X4_spreads w S 12 _ _ _ _) ms_X4_spreads rfl zg_1017 (by decide) (Nat.le_of_ble_eq_true rfl) dX4_fewest_132 (fun v1 M2 => ?_)
    refine aj_if_eq (tgt := 141) dX4_fewest_135 (by decide) (fun h => ?_) (fun h => ?_)
    · refine aj_iinc (j := 1) (v := (x4 + (1 : Int32))) (ls2 := [(4, .int ((x4 + (1 : Int32)))), (0, .ref (p0))]) dX4_fewest_141 rfl rfl (Nat.le_of_ble_eq_true rfl) rfl ?_
      refine aj_goto (tgt := 121) dX4_fewest_144 (by decide) ?_
      refine AJ.sub [1, 0] rfl ?_
      exact ih (p0) ((x4 + (1 : Int32))) M2
    refine aj_iload (1) dX4_fewest_138 rfl ?_
    exact aj_iret dX4_fewest_140 rfl rfl rfl
def gX4_fewest_40 (S : List (Nat × Nat)) (k13 : Nat → Nat → Nat → Int32 → zM → Option (Int32 × zM)) : Nat → Nat → Nat → Nat → Int32 → Int32 → Int32 → Int32 → zM → Option (Int32 × zM)
  | 0 => fun _ _ _ _ _ _ _ _ => none
  | n + 1 => fun p0 p2 p3 x4 x5 x6 x7 M => zgR S M (p0) 4 9 7 (fun r1 => zgI S M (r1) 10 18 10 (fun v2 => (if v2 ≤ x7 then zgR S M (p0) 4 9 1 (fun r3 => zrc S (r3) 5 1 ((gX5_set S (r3) (x4) (x6) M).bind (fun M4 => k13 (p0) (p2) (p3) ((x4 + (1 : Int32))) M4))) else zgR S M (p0) 4 9 7 (fun r5 => zgR S M (r5) 10 18 12 (fun r6 => zrc S (r6) 5 1 ((gX5_get S (r6) (x7) M).bind (fun v7 => (if x5 < v7 then (gX4_fewest_40 S  k13 n) (p0) (p2) (p3) (x4) (x5) (x6) ((x7 + (1 : Int32))) M else zgR S M (p0) 4 9 7 (fun r8 => zgR S M (r8) 10 18 13 (fun r9 => zrc S (r9) 5 1 ((gX5_get S (r9) (x7) M).bind (fun v10 => (if v10 < x5 then (gX4_fewest_40 S  k13 n) (p0) (p2) (p3) (x4) (x5) (x6) ((x7 + (1 : Int32))) M else (gX4_fewest_40 S  k13 n) (p0) (p2) (p3) (x4) (x5) ((x6 ||| ((1 : Int32) <<< (x7 &&& 31)))) ((x7 + (1 : Int32))) M)))))))))))))
set_option maxHeartbeats 4000000 in
set_option maxRecDepth 100000 in
theorem t_X4_fewest_40 (w : zWd) (S : List (Nat × Nat)) (k13 : Nat → Nat → Nat → Int32 → zM → Option (Int32 × zM)) (hk13 : ∀ (p0 : Nat) (p2 : Nat) (p3 : Nat) (x4 : Int32) (M : zM), AJ (zfIM S) w 16 mX4_fewest 13 [(0, .ref (p0)), (2, .ref (p2)), (3, .ref (p3)), (4, .int (x4))] [] (S, M) (k13 p0 p2 p3 x4 M)) (fu : Nat) : ∀ (p0 : Nat) (p2 : Nat) (p3 : Nat) (x4 : Int32) (x5 : Int32) (x6 : Int32) (x7 : Int32) (M : zM), AJ (zfIM S) w 16 mX4_fewest 40 [(0, .ref (p0)), (2, .ref (p2)), (3, .ref (p3)), (4, .int (x4)), (5, .int (x5)), (6, .int (x6)), (7, .int (x7))] [] (S, M) (gX4_fewest_40 S k13 fu p0 p2 p3 x4 x5 x6 x7 M) := by
  induction fu with
  | zero => intro p0 p2 p3 x4 x5 x6 x7 M; exact AJ.none
  | succ n ih =>
    intro p0 p2 p3 x4 x5 x6 x7 M
    unfold gX4_fewest_40
    refine aj_iload (6) dX4_fewest_40 rfl ?_
    refine aj_aload_n (0) dX4_fewest_42 rfl rfl ?_
    refine aj_getR (TX := TX4) zc4 (by decide) rfl (Or.inl zg_539) dX4_fewest_43 (fun r1 => ?_)
    refine r_getI (TX := TX10) zc10 (by decide) rfl (Or.inr ⟨_, zn_214⟩) dX4_fewest_46 (fun v2 => ?_)
    refine aj_icmp_ge (tgt := 101) dX4_fewest_49 (by decide) (fun h => ?_) (fun h => ?_)
    · refine aj_aload_n (0) dX4_fewest_101 rfl rfl ?_
      refine aj_getR (TX := TX4) zc4 (by decide) rfl (Or.inl zg_531) dX4_fewest_102 (fun r3 => ?_)
      refine aj_iload (3) dX4_fewest_105 rfl ?_
      refine aj_iload (5) dX4_fewest_107 rfl ?_
      refine rV_VM (as := [.int (x4), .int (x6)]) (c_X5_set w S _ _ _ _) mv_X5_set rfl zg_1016 (by decide) (Nat.le_of_ble_eq_true rfl) dX4_fewest_109 (fun M4 => ?_)
      refine aj_iinc (j := 3) (v := (x4 + (1 : Int32))) (ls2 := [(4, .int ((x4 + (1 : Int32)))), (0, .ref (p0)), (2, .ref (p2)), (3, .ref (p3)), (5, .int (x5)), (6, .int (x6)), (7, .int (x7))]) dX4_fewest_112 rfl rfl (Nat.le_of_ble_eq_true rfl) rfl ?_
      refine aj_goto (tgt := 13) dX4_fewest_115 (by decide) ?_
      refine AJ.sub [1, 2, 3, 0] rfl ?_
      exact hk13 (p0) (p2) (p3) ((x4 + (1 : Int32))) M4
    refine aj_aload_n (0) dX4_fewest_52 rfl rfl ?_
    refine aj_getR (TX := TX4) zc4 (by decide) rfl (Or.inl zg_539) dX4_fewest_53 (fun r5 => ?_)
    refine aj_getR (TX := TX10) zc10 (by decide) rfl (Or.inr ⟨_, zn_220⟩) dX4_fewest_56 (fun r6 => ?_)
    refine aj_iload (6) dX4_fewest_59 rfl ?_
    refine rV_I (as := [.int (x7)]) (c_X5_get w S _ _ _) mv_X5_get rfl zg_1015 (by decide) (Nat.le_of_ble_eq_true rfl) dX4_fewest_61 (fun v7 => ?_)
    refine aj_iload (4) dX4_fewest_64 rfl ?_
    refine aj_icmp_gt (tgt := 95) dX4_fewest_66 (by decide) (fun h => ?_) (fun h => ?_)
    · refine aj_iinc (j := 6) (v := (x7 + (1 : Int32))) (ls2 := [(7, .int ((x7 + (1 : Int32)))), (0, .ref (p0)), (2, .ref (p2)), (3, .ref (p3)), (4, .int (x4)), (5, .int (x5)), (6, .int (x6))]) dX4_fewest_95 rfl rfl (Nat.le_of_ble_eq_true rfl) rfl ?_
      refine aj_goto (tgt := 40) dX4_fewest_98 (by decide) ?_
      refine AJ.sub [1, 2, 3, 4, 5, 6, 0] rfl ?_
      exact ih (p0) (p2) (p3) (x4) (x5) (x6) ((x7 + (1 : Int32))) M
    refine aj_aload_n (0) dX4_fewest_69 rfl rfl ?_
    refine aj_getR (TX := TX4) zc4 (by decide) rfl (Or.inl zg_539) dX4_fewest_70 (fun r8 => ?_)
    refine aj_getR (TX := TX10) zc10 (by decide) rfl (Or.inr ⟨_, zn_225⟩) dX4_fewest_73 (fun r9 => ?_)
    refine aj_iload (6) dX4_fewest_76 rfl ?_
    refine rV_I (as := [.int (x7)]) (c_X5_get w S _ _ _) mv_X5_get rfl zg_1015 (by decide) (Nat.le_of_ble_eq_true rfl) dX4_fewest_78 (fun v10 => ?_)
    refine aj_iload (4) dX4_fewest_81 rfl ?_
    refine aj_icmp_lt (tgt := 95) dX4_fewest_83 (by decide) (fun h => ?_) (fun h => ?_)
    · refine aj_iinc (j := 6) (v := (x7 + (1 : Int32))) (ls2 := [(7, .int ((x7 + (1 : Int32)))), (0, .ref (p0)), (2, .ref (p2)), (3, .ref (p3)), (4, .int (x4)), (5, .int (x5)), (6, .int (x6))]) dX4_fewest_95 rfl rfl (Nat.le_of_ble_eq_true rfl) rfl ?_
      refine aj_goto (tgt := 40) dX4_fewest_98 (by decide) ?_
      refine AJ.sub [1, 2, 3, 4, 5, 6, 0] rfl ?_
      exact ih (p0) (p2) (p3) (x4) (x5) (x6) ((x7 + (1 : Int32))) M
    refine aj_iload (5) dX4_fewest_86 rfl ?_
    refine aj_iconst (v := (1 : Int32)) dX4_fewest_88 (by decide) ?_
    refine aj_iload (6) dX4_fewest_89 rfl ?_
    refine aj_ishl dX4_fewest_91 ?_
    refine aj_ior dX4_fewest_92 ?_
    refine aj_istore (ls2 := [(6, .int ((x6 ||| ((1 : Int32) <<< (x7 &&& 31))))), (0, .ref (p0)), (2, .ref (p2)), (3, .ref (p3)), (4, .int (x4)), (5, .int (x5)), (7, .int (x7))]) dX4_fewest_93 (Nat.le_of_ble_eq_true rfl) rfl ?_
    refine aj_iinc (j := 6) (v := (x7 + (1 : Int32))) (ls2 := [(7, .int ((x7 + (1 : Int32)))), (6, .int ((x6 ||| ((1 : Int32) <<< (x7 &&& 31))))), (0, .ref (p0)), (2, .ref (p2)), (3, .ref (p3)), (4, .int (x4)), (5, .int (x5))]) dX4_fewest_95 rfl rfl (Nat.le_of_ble_eq_true rfl) rfl ?_
    refine aj_goto (tgt := 40) dX4_fewest_98 (by decide) ?_
    refine AJ.sub [2, 3, 4, 5, 6, 1, 0] rfl ?_
    exact ih (p0) (p2) (p3) (x4) (x5) ((x6 ||| ((1 : Int32) <<< (x7 &&& 31)))) ((x7 + (1 : Int32))) M
def gX4_fewest_13 (S : List (Nat × Nat)) : Nat → Nat → Nat → Nat → Int32 → zM → Option (Int32 × zM)
  | 0 => fun _ _ _ _ _ => none
  | n + 1 => fun p0 p2 p3 x4 M => zgR S M (p0) 4 9 7 (fun r1 => zgI S M (r1) 10 18 1 (fun v2 => (if v2 ≤ x4 then gX4_fewest_121 S zfu (p0) ((0 : Int32)) M else zrc S (p3) 0 6 (zb2 (gX0_lengthBy S (p3) (p2) (x4) M) (fun v3 M4 => gX4_fewest_40 S (gX4_fewest_13 S   n) zfu (p0) (p2) (p3) (x4) (v3) ((0 : Int32)) ((0 : Int32)) M4)))))
set_option maxHeartbeats 4000000 in
set_option maxRecDepth 100000 in
theorem t_X4_fewest_13 (w : zWd) (S : List (Nat × Nat)) (fu : Nat) : ∀ (p0 : Nat) (p2 : Nat) (p3 : Nat) (x4 : Int32) (M : zM), AJ (zfIM S) w 16 mX4_fewest 13 [(0, .ref (p0)), (2, .ref (p2)), (3, .ref (p3)), (4, .int (x4))] [] (S, M) (gX4_fewest_13 S fu p0 p2 p3 x4 M) := by
  induction fu with
  | zero => intro p0 p2 p3 x4 M; exact AJ.none
  | succ n ih =>
    intro p0 p2 p3 x4 M
    unfold gX4_fewest_13
    refine aj_iload (3) dX4_fewest_13 rfl ?_
    refine aj_aload_n (0) dX4_fewest_15 rfl rfl ?_
    refine aj_getR (TX := TX4) zc4 (by decide) rfl (Or.inl zg_539) dX4_fewest_16 (fun r1 => ?_)
    refine r_getI (TX := TX10) zc10 (by decide) rfl (Or.inr ⟨_, zn_184⟩) dX4_fewest_19 (fun v2 => ?_)
    refine aj_icmp_ge (tgt := 118) dX4_fewest_22 (by decide) (fun h => ?_) (fun h => ?_)
    · refine aj_iconst (v := (0 : Int32)) dX4_fewest_118 (by decide) ?_
      refine aj_istore (ls2 := [(4, .int ((0 : Int32))), (0, .ref (p0)), (2, .ref (p2)), (3, .ref (p3))]) dX4_fewest_119 (Nat.le_of_ble_eq_true rfl) rfl ?_
      refine AJ.sub [1, 0] rfl ?_
      exact t_X4_fewest_121 w S zfu (p0) ((0 : Int32)) M
    refine aj_aload_n (2) dX4_fewest_25 rfl rfl ?_
    refine aj_aload_n (1) dX4_fewest_26 rfl rfl ?_
    refine aj_iload (3) dX4_fewest_27 rfl ?_
    refine rV_IM (as := [.ref (p2), .int (x4)]) (c_X0_lengthBy w S _ _ _ _) mv_X0_lengthBy rfl zg_1014 (by decide) (Nat.le_of_ble_eq_true rfl) dX4_fewest_29 (fun v3 M4 => ?_)
    refine aj_istore (ls2 := [(5, .int (v3)), (0, .ref (p0)), (2, .ref (p2)), (3, .ref (p3)), (4, .int (x4))]) dX4_fewest_32 (Nat.le_of_ble_eq_true rfl) rfl ?_
    refine aj_iconst (v := (0 : Int32)) dX4_fewest_34 (by decide) ?_
    refine aj_istore (ls2 := [(6, .int ((0 : Int32))), (5, .int (v3)), (0, .ref (p0)), (2, .ref (p2)), (3, .ref (p3)), (4, .int (x4))]) dX4_fewest_35 (Nat.le_of_ble_eq_true rfl) rfl ?_
    refine aj_iconst (v := (0 : Int32)) dX4_fewest_37 (by decide) ?_
    refine aj_istore (ls2 := [(7, .int ((0 : Int32))), (6, .int ((0 : Int32))), (5, .int (v3)), (0, .ref (p0)), (2, .ref (p2)), (3, .ref (p3)), (4, .int (x4))]) dX4_fewest_38 (Nat.le_of_ble_eq_true rfl) rfl ?_
    refine AJ.sub [3, 4, 5, 6, 2, 1, 0] rfl ?_
    exact t_X4_fewest_40 w S (gX4_fewest_13 S   n) ih zfu (p0) (p2) (p3) (x4) (v3) ((0 : Int32)) ((0 : Int32)) M4
def gX4_fewest (S : List (Nat × Nat)) (p0 : Nat) (p1 : Nat) (p2 : Nat) (p3 : Nat) (M : zM) : Option (Int32 × zM) := zpR S M (p0) 4 9 7 (some (p1)) (fun M1 => zpR S M1 (p0) 4 9 8 (some (p2)) (fun M2 => gX4_fewest_13 S zfu (p0) (p2) (p3) ((0 : Int32)) M2))
set_option maxHeartbeats 4000000 in
set_option maxRecDepth 100000 in
theorem c_X4_fewest (w : zWd) (S : List (Nat × Nat)) (p0 : Nat) (p1 : Nat) (p2 : Nat) (p3 : Nat) (M : zM) : CT (zfIM S) w 16 mX4_fewest [.ref (p0), .ref (p1), .ref (p2), .ref (p3)] (S, M) (gX4_fewest S p0 p1 p2 p3 M) := by
  refine CT.of (by decide) (Nat.le_of_ble_eq_true rfl) ?_
  show AJ _ _ _ _ 0 [(0, .ref (p0)), (1, .ref (p1)), (2, .ref (p2)), (3, .ref (p3))] [] _ _
  unfold gX4_fewest
  refine aj_aload_n (0) dX4_fewest_0 rfl rfl ?_
  refine aj_aload_n (1) dX4_fewest_1 rfl rfl ?_
  refine r_putR (TX := TX4) zc4 (by decide) rfl (Or.inl rfl) (Or.inl zg_539) dX4_fewest_2 (fun M1 => ?_)
  refine aj_aload_n (0) dX4_fewest_5 rfl rfl ?_
  refine aj_aload_n (2) dX4_fewest_6 rfl rfl ?_
  refine r_putR (TX := TX4) zc4 (by decide) rfl (Or.inl rfl) (Or.inl zg_540) dX4_fewest_7 (fun M2 => ?_)
  refine aj_iconst (v := (0 : Int32)) dX4_fewest_10 (by decide) ?_
  refine aj_istore (ls2 := [(4, .int ((0 : Int32))), (0, .ref (p0)), (1, .ref (p1)), (2, .ref (p2)), (3, .ref (p3))]) dX4_fewest_11 (Nat.le_of_ble_eq_true rfl) rfl ?_
  refine AJ.sub [1, 3, 4, 0] rfl ?_
  exact t_X4_fewest_13 w S zfu (p0) (p2) (p3) ((0 : Int32)) M2
def gX4_stateBehind (S : List (Nat × Nat)) (p0 : Nat) (x1 : Int32) (M : zM) : Option (Option Nat) := (if x1 < 0 then some (none : Option Nat) else zgR S M (p0) 4 9 4 (fun r1 => zal S 103 (r1) (fun v2 => (if v2 ≤ x1 then some (none : Option Nat) else zgR S M (p0) 4 9 4 (fun r3 => zaQ S M (r3) (x1) (fun q4 => some (q4 : Option Nat)))))))
set_option maxHeartbeats 4000000 in
set_option maxRecDepth 100000 in
theorem c_X4_stateBehind (w : zWd) (S : List (Nat × Nat)) (p0 : Nat) (x1 : Int32) (M : zM) : CT (zfQ S M) w 1 mX4_stateBehind [.ref (p0), .int (x1)] (S, M) (gX4_stateBehind S p0 x1 M) := by
  refine CT.of (by decide) (Nat.le_of_ble_eq_true rfl) ?_
  show AJ _ _ _ _ 0 [(0, .ref (p0)), (1, .int (x1))] [] _ _
  unfold gX4_stateBehind
  refine aj_iload_n (1) dX4_stateBehind_0 rfl rfl ?_
  refine aj_if_lt (tgt := 22) dX4_stateBehind_1 (by decide) (fun h => ?_) (fun h => ?_)
  · refine aj_null dX4_stateBehind_22 ?_
    exact aj_aret (x := none) dX4_stateBehind_23 rfl rfl
  refine aj_iload_n (1) dX4_stateBehind_4 rfl rfl ?_
  refine aj_aload_n (0) dX4_stateBehind_5 rfl rfl ?_
  refine aj_getR (TX := TX4) zc4 (by decide) rfl (Or.inl zg_535) dX4_stateBehind_6 (fun r1 => ?_)
  refine r_alen (t := 103) (by decide) dX4_stateBehind_9 (fun v2 => ?_)
  refine aj_icmp_ge (tgt := 22) dX4_stateBehind_10 (by decide) (fun h => ?_) (fun h => ?_)
  · refine aj_null dX4_stateBehind_22 ?_
    exact aj_aret (x := none) dX4_stateBehind_23 rfl rfl
  refine aj_aload_n (0) dX4_stateBehind_13 rfl rfl ?_
  refine aj_getR (TX := TX4) zc4 (by decide) rfl (Or.inl zg_535) dX4_stateBehind_14 (fun r3 => ?_)
  refine aj_iload_n (1) dX4_stateBehind_17 rfl rfl ?_
  refine aj_aald dX4_stateBehind_18 (fun q4 => ?_)
  refine aj_goto (tgt := 23) dX4_stateBehind_19 (by decide) ?_
  exact aj_aret (x := q4) dX4_stateBehind_23 rfl rfl
def gX4_begin (S : List (Nat × Nat)) (p0 : Nat) (p1 : Nat) (p2 : Nat) (x3 : Int32) (M : zM) : Option zM := zpR S M (p0) 4 9 7 (some (p1)) (fun M1 => zpI S M1 (p0) 4 9 5 (x3) (fun M2 => zpI S M2 (p0) 4 9 6 ((-1 : Int32)) (fun M3 => zrc S (p0) 4 9 ((gX4_stateBehind S (p0) ((0 : Int32)) M3).bind (fun q4 => zcs (q4) (some M3) (fun r5 => zrc S (r5) 7 15 ((gX7_copy S (r5) (p2) M3).bind (fun M6 => some M6))))))))
set_option maxHeartbeats 4000000 in
set_option maxRecDepth 100000 in
theorem c_X4_begin (w : zWd) (S : List (Nat × Nat)) (p0 : Nat) (p1 : Nat) (p2 : Nat) (x3 : Int32) (M : zM) : CT (zfVM S) w 4 mX4_begin [.ref (p0), .ref (p1), .ref (p2), .int (x3)] (S, M) (gX4_begin S p0 p1 p2 x3 M) := by
  refine CT.of (by decide) (Nat.le_of_ble_eq_true rfl) ?_
  show AJ _ _ _ _ 0 [(0, .ref (p0)), (1, .ref (p1)), (2, .ref (p2)), (3, .int (x3))] [] _ _
  unfold gX4_begin
  refine aj_aload_n (0) dX4_begin_0 rfl rfl ?_
  refine aj_aload_n (1) dX4_begin_1 rfl rfl ?_
  refine r_putR (TX := TX4) zc4 (by decide) rfl (Or.inl rfl) (Or.inl zg_539) dX4_begin_2 (fun M1 => ?_)
  refine aj_aload_n (0) dX4_begin_5 rfl rfl ?_
  refine aj_iload_n (3) dX4_begin_6 rfl rfl ?_
  refine r_putI (TX := TX4) zc4 (by decide) rfl rfl rfl rfl (Or.inl zg_536) dX4_begin_7 (fun M2 => ?_)
  refine aj_aload_n (0) dX4_begin_10 rfl rfl ?_
  refine aj_iconst (v := (-1 : Int32)) dX4_begin_11 (by decide) ?_
  refine r_putI (TX := TX4) zc4 (by decide) rfl rfl rfl rfl (Or.inl zg_537) dX4_begin_12 (fun M3 => ?_)
  refine aj_aload_n (0) dX4_begin_15 rfl rfl ?_
  refine aj_iconst (v := (0 : Int32)) dX4_begin_16 (by decide) ?_
  refine rV_Q (as := [.int ((0 : Int32))]) (c_X4_stateBehind w S _ _ _) mv_X4_stateBehind rfl zg_1032 (by decide) (Nat.le_of_ble_eq_true rfl) dX4_begin_17 (fun q4 => ?_)
  refine r_astoreQ (ls2 := [(4, va_rf (q4)), (0, .ref (p0)), (1, .ref (p1)), (2, .ref (p2)), (3, .int (x3))]) dX4_begin_20 (Nat.le_of_ble_eq_true rfl) (by cases q4 <;> rfl) ?_
  refine r_aloadQ (0) dX4_begin_22 rfl ?_
  refine r_ifnullQ (L := fun q9 => [(4, va_rf (q9)), (0, .ref (p0)), (1, .ref (p1)), (2, .ref (p2)), (3, .int (x3))]) (tgt := 33) dX4_begin_24 (by decide) ?_ (fun r5 => ?_)
  · show AJ _ _ _ _ _ [(4, va_rf (none)), (0, .ref (p0)), (1, .ref (p1)), (2, .ref (p2)), (3, .int (x3))] _ _ _
    exact aj_vret dX4_begin_33 rfl rfl
  show AJ _ _ _ _ _ [(4, .ref (r5)), (0, .ref (p0)), (1, .ref (p1)), (2, .ref (p2)), (3, .int (x3))] _ _ _
  refine aj_aload (0) dX4_begin_27 rfl ?_
  refine aj_aload_n (3) dX4_begin_29 rfl rfl ?_
  refine rV_VM (as := [.ref (p2)]) (c_X7_copy w S _ _ _) mv_X7_copy rfl zg_1036 (by decide) (Nat.le_of_ble_eq_true rfl) dX4_begin_30 (fun M6 => ?_)
  exact aj_vret dX4_begin_33 rfl rfl
def gX4_hopes_79 (S : List (Nat × Nat)) (k5 : Nat → Nat → Int32 → Int32 → Int32 → zM → Option Int32) (p0 : Nat) (p1 : Nat) (x2 : Int32) (x3 : Int32) (x4 : Int32) (x5 : Int32) (x0s : Int32) (M : zM) : Option Int32 := (if x5 ≤ 0 then k5 (p0) (p1) (x2) ((x3 + (1 : Int32))) ((x4 + (1 : Int32))) M else (if x0s = 0 then k5 (p0) (p1) (x2) ((x3 + (0 : Int32))) ((x4 + (1 : Int32))) M else k5 (p0) (p1) (x2) ((x3 + (1 : Int32))) ((x4 + (1 : Int32))) M))
set_option maxHeartbeats 4000000 in
set_option maxRecDepth 100000 in
theorem t_X4_hopes_79 (w : zWd) (S : List (Nat × Nat)) (k5 : Nat → Nat → Int32 → Int32 → Int32 → zM → Option Int32) (hk5 : ∀ (p0 : Nat) (p1 : Nat) (x2 : Int32) (x3 : Int32) (x4 : Int32) (M : zM), AJ (zfI S M) w 2 mX4_hopes 5 [(0, .ref (p0)), (1, .ref (p1)), (2, .int (x2)), (3, .int (x3)), (4, .int (x4))] [] (S, M) (k5 p0 p1 x2 x3 x4 M)) (p0 : Nat) (p1 : Nat) (x2 : Int32) (x3 : Int32) (x4 : Int32) (x5 : Int32) (x0s : Int32) (M : zM) : AJ (zfI S M) w 2 mX4_hopes 79 [(0, .ref (p0)), (1, .ref (p1)), (2, .int (x2)), (3, .int (x3)), (4, .int (x4)), (5, .int (x5))] [.int (x0s)] (S, M) (gX4_hopes_79 S k5 p0 p1 x2 x3 x4 x5 x0s M) := by
  unfold gX4_hopes_79
  refine aj_istore (ls2 := [(6, .int (x0s)), (0, .ref (p0)), (1, .ref (p1)), (2, .int (x2)), (3, .int (x3)), (4, .int (x4)), (5, .int (x5))]) dX4_hopes_79 (Nat.le_of_ble_eq_true rfl) rfl ?_
  refine aj_iload_n (4) dX4_hopes_81 rfl rfl ?_
  refine aj_iload (6) dX4_hopes_82 rfl ?_
  refine aj_if_le (tgt := 92) dX4_hopes_84 (by decide) (fun h => ?_) (fun h => ?_)
  · refine aj_iconst (v := (1 : Int32)) dX4_hopes_92 (by decide) ?_
    refine aj_goto (tgt := 97) dX4_hopes_93 (by decide) ?_
    refine aj_iadd dX4_hopes_97 ?_
    refine aj_istore_n (ls2 := [(3, .int ((x3 + (1 : Int32)))), (6, .int (x0s)), (0, .ref (p0)), (1, .ref (p1)), (2, .int (x2)), (4, .int (x4)), (5, .int (x5))]) dX4_hopes_98 rfl (Nat.le_of_ble_eq_true rfl) rfl ?_
    refine aj_iinc (j := 5) (v := (x4 + (1 : Int32))) (ls2 := [(4, .int ((x4 + (1 : Int32)))), (3, .int ((x3 + (1 : Int32)))), (6, .int (x0s)), (0, .ref (p0)), (1, .ref (p1)), (2, .int (x2)), (5, .int (x5))]) dX4_hopes_99 rfl rfl (Nat.le_of_ble_eq_true rfl) rfl ?_
    refine aj_goto (tgt := 5) dX4_hopes_102 (by decide) ?_
    refine AJ.sub [3, 4, 5, 1, 0] rfl ?_
    exact hk5 (p0) (p1) (x2) ((x3 + (1 : Int32))) ((x4 + (1 : Int32))) M
  refine aj_iload (0) dX4_hopes_87 rfl ?_
  refine aj_if_eq (tgt := 96) dX4_hopes_89 (by decide) (fun h => ?_) (fun h => ?_)
  · refine aj_iconst (v := (0 : Int32)) dX4_hopes_96 (by decide) ?_
    refine aj_iadd dX4_hopes_97 ?_
    refine aj_istore_n (ls2 := [(3, .int ((x3 + (0 : Int32)))), (6, .int (x0s)), (0, .ref (p0)), (1, .ref (p1)), (2, .int (x2)), (4, .int (x4)), (5, .int (x5))]) dX4_hopes_98 rfl (Nat.le_of_ble_eq_true rfl) rfl ?_
    refine aj_iinc (j := 5) (v := (x4 + (1 : Int32))) (ls2 := [(4, .int ((x4 + (1 : Int32)))), (3, .int ((x3 + (0 : Int32)))), (6, .int (x0s)), (0, .ref (p0)), (1, .ref (p1)), (2, .int (x2)), (5, .int (x5))]) dX4_hopes_99 rfl rfl (Nat.le_of_ble_eq_true rfl) rfl ?_
    refine aj_goto (tgt := 5) dX4_hopes_102 (by decide) ?_
    refine AJ.sub [3, 4, 5, 1, 0] rfl ?_
    exact hk5 (p0) (p1) (x2) ((x3 + (0 : Int32))) ((x4 + (1 : Int32))) M
  refine aj_iconst (v := (1 : Int32)) dX4_hopes_92 (by decide) ?_
  refine aj_goto (tgt := 97) dX4_hopes_93 (by decide) ?_
  refine aj_iadd dX4_hopes_97 ?_
  refine aj_istore_n (ls2 := [(3, .int ((x3 + (1 : Int32)))), (6, .int (x0s)), (0, .ref (p0)), (1, .ref (p1)), (2, .int (x2)), (4, .int (x4)), (5, .int (x5))]) dX4_hopes_98 rfl (Nat.le_of_ble_eq_true rfl) rfl ?_
  refine aj_iinc (j := 5) (v := (x4 + (1 : Int32))) (ls2 := [(4, .int ((x4 + (1 : Int32)))), (3, .int ((x3 + (1 : Int32)))), (6, .int (x0s)), (0, .ref (p0)), (1, .ref (p1)), (2, .int (x2)), (5, .int (x5))]) dX4_hopes_99 rfl rfl (Nat.le_of_ble_eq_true rfl) rfl ?_
  refine aj_goto (tgt := 5) dX4_hopes_102 (by decide) ?_
  refine AJ.sub [3, 4, 5, 1, 0] rfl ?_
  exact hk5 (p0) (p1) (x2) ((x3 + (1 : Int32))) ((x4 + (1 : Int32))) M
def gX4_hopes_5 (S : List (Nat × Nat)) : Nat → Nat → Nat → Int32 → Int32 → Int32 → zM → Option Int32
  | 0 => fun _ _ _ _ _ _ => none
  | n + 1 => fun p0 p1 x2 x3 x4 M => zgR S M (p0) 4 9 7 (fun r1 => zgI S M (r1) 10 18 10 (fun v2 => (if v2 ≤ x4 then some (x3) else zgR S M (p0) 4 9 7 (fun r3 => zgR S M (r3) 10 18 14 (fun r4 => zrc S (r4) 5 1 ((gX5_get S (r4) (x4) M).bind (fun v5 => zgR S M (p1) 7 15 14 (fun r6 => zrc S (r6) 5 1 ((gX5_get S (r6) (x4) M).bind (fun v7 => zgR S M (p0) 4 9 7 (fun r8 => zgR S M (r8) 10 18 12 (fun r9 => zrc S (r9) 5 1 ((gX5_get S (r9) (x4) M).bind (fun v10 => zgR S M (p0) 4 9 7 (fun r11 => zgR S M (r11) 10 18 13 (fun r12 => zrc S (r12) 5 1 ((gX5_get S (r12) (x4) M).bind (fun v13 => (if v13 < v10 then gX4_hopes_79 S (gX4_hopes_5 S   n) (p0) (p1) (x2) (x3) (x4) ((v5 - v7)) ((0 : Int32)) M else (if x2 < (v5 - v7) then gX4_hopes_79 S (gX4_hopes_5 S   n) (p0) (p1) (x2) (x3) (x4) ((v5 - v7)) ((0 : Int32)) M else gX4_hopes_79 S (gX4_hopes_5 S   n) (p0) (p1) (x2) (x3) (x4) ((v5 - v7)) ((1 : Int32)) M))))))))))))))))))))
set_option maxHeartbeats 4000000 in
set_option maxRecDepth 100000 in
theorem t_X4_hopes_5 (w : zWd) (S : List (Nat × Nat)) (fu : Nat) : ∀ (p0 : Nat) (p1 : Nat) (x2 : Int32) (x3 : Int32) (x4 : Int32) (M : zM), AJ (zfI S M) w 2 mX4_hopes 5 [(0, .ref (p0)), (1, .ref (p1)), (2, .int (x2)), (3, .int (x3)), (4, .int (x4))] [] (S, M) (gX4_hopes_5 S fu p0 p1 x2 x3 x4 M) := by
  induction fu with
  | zero => intro p0 p1 x2 x3 x4 M; exact AJ.none
  | succ n ih =>
    intro p0 p1 x2 x3 x4 M
    unfold gX4_hopes_5
    refine aj_iload (4) dX4_hopes_5 rfl ?_
    refine aj_aload_n (0) dX4_hopes_7 rfl rfl ?_
    refine aj_getR (TX := TX4) zc4 (by decide) rfl (Or.inl zg_539) dX4_hopes_8 (fun r1 => ?_)
    refine r_getI (TX := TX10) zc10 (by decide) rfl (Or.inr ⟨_, zn_214⟩) dX4_hopes_11 (fun v2 => ?_)
    refine aj_icmp_ge (tgt := 105) dX4_hopes_14 (by decide) (fun h => ?_) (fun h => ?_)
    · refine aj_iload_n (3) dX4_hopes_105 rfl rfl ?_
      exact aj_iret dX4_hopes_106 rfl rfl rfl
    refine aj_aload_n (0) dX4_hopes_17 rfl rfl ?_
    refine aj_getR (TX := TX4) zc4 (by decide) rfl (Or.inl zg_539) dX4_hopes_18 (fun r3 => ?_)
    refine aj_getR (TX := TX10) zc10 (by decide) rfl (Or.inr ⟨_, zn_230⟩) dX4_hopes_21 (fun r4 => ?_)
    refine aj_iload (4) dX4_hopes_24 rfl ?_
    refine rV_I (as := [.int (x4)]) (c_X5_get w S _ _ _) mv_X5_get rfl zg_1015 (by decide) (Nat.le_of_ble_eq_true rfl) dX4_hopes_26 (fun v5 => ?_)
    refine aj_aload_n (1) dX4_hopes_29 rfl rfl ?_
    refine aj_getR (TX := TX7) zc7 (by decide) rfl (Or.inr ⟨_, zn_374⟩) dX4_hopes_30 (fun r6 => ?_)
    refine aj_iload (4) dX4_hopes_33 rfl ?_
    refine rV_I (as := [.int (x4)]) (c_X5_get w S _ _ _) mv_X5_get rfl zg_1015 (by decide) (Nat.le_of_ble_eq_true rfl) dX4_hopes_35 (fun v7 => ?_)
    refine aj_isub dX4_hopes_38 ?_
    refine aj_istore (ls2 := [(5, .int ((v5 - v7))), (0, .ref (p0)), (1, .ref (p1)), (2, .int (x2)), (3, .int (x3)), (4, .int (x4))]) dX4_hopes_39 (Nat.le_of_ble_eq_true rfl) rfl ?_
    refine aj_aload_n (1) dX4_hopes_41 rfl rfl ?_
    refine aj_getR (TX := TX4) zc4 (by decide) rfl (Or.inl zg_539) dX4_hopes_42 (fun r8 => ?_)
    refine aj_getR (TX := TX10) zc10 (by decide) rfl (Or.inr ⟨_, zn_220⟩) dX4_hopes_45 (fun r9 => ?_)
    refine aj_iload (5) dX4_hopes_48 rfl ?_
    refine rV_I (as := [.int (x4)]) (c_X5_get w S _ _ _) mv_X5_get rfl zg_1015 (by decide) (Nat.le_of_ble_eq_true rfl) dX4_hopes_50 (fun v10 => ?_)
    refine aj_aload_n (1) dX4_hopes_53 rfl rfl ?_
    refine aj_getR (TX := TX4) zc4 (by decide) rfl (Or.inl zg_539) dX4_hopes_54 (fun r11 => ?_)
    refine aj_getR (TX := TX10) zc10 (by decide) rfl (Or.inr ⟨_, zn_225⟩) dX4_hopes_57 (fun r12 => ?_)
    refine aj_iload (5) dX4_hopes_60 rfl ?_
    refine rV_I (as := [.int (x4)]) (c_X5_get w S _ _ _) mv_X5_get rfl zg_1015 (by decide) (Nat.le_of_ble_eq_true rfl) dX4_hopes_62 (fun v13 => ?_)
    refine aj_icmp_gt (tgt := 78) dX4_hopes_65 (by decide) (fun h => ?_) (fun h => ?_)
    · refine aj_iconst (v := (0 : Int32)) dX4_hopes_78 (by decide) ?_
      refine AJ.sub [1, 2, 3, 4, 5, 0] rfl ?_
      exact t_X4_hopes_79 w S (gX4_hopes_5 S   n) ih (p0) (p1) (x2) (x3) (x4) ((v5 - v7)) ((0 : Int32)) M
    refine aj_iload (0) dX4_hopes_68 rfl ?_
    refine aj_iload_n (3) dX4_hopes_70 rfl rfl ?_
    refine aj_icmp_gt (tgt := 78) dX4_hopes_71 (by decide) (fun h => ?_) (fun h => ?_)
    · refine aj_iconst (v := (0 : Int32)) dX4_hopes_78 (by decide) ?_
      refine AJ.sub [1, 2, 3, 4, 5, 0] rfl ?_
      exact t_X4_hopes_79 w S (gX4_hopes_5 S   n) ih (p0) (p1) (x2) (x3) (x4) ((v5 - v7)) ((0 : Int32)) M
    refine aj_iconst (v := (1 : Int32)) dX4_hopes_74 (by decide) ?_
    refine aj_goto (tgt := 79) dX4_hopes_75 (by decide) ?_
    refine AJ.sub [1, 2, 3, 4, 5, 0] rfl ?_
    exact t_X4_hopes_79 w S (gX4_hopes_5 S   n) ih (p0) (p1) (x2) (x3) (x4) ((v5 - v7)) ((1 : Int32)) M
def gX4_hopes (S : List (Nat × Nat)) (p0 : Nat) (p1 : Nat) (x2 : Int32) (M : zM) : Option Int32 := gX4_hopes_5 S zfu (p0) (p1) (x2) ((0 : Int32)) ((0 : Int32)) M
set_option maxHeartbeats 4000000 in
set_option maxRecDepth 100000 in
theorem c_X4_hopes (w : zWd) (S : List (Nat × Nat)) (p0 : Nat) (p1 : Nat) (x2 : Int32) (M : zM) : CT (zfI S M) w 2 mX4_hopes [.ref (p0), .ref (p1), .int (x2)] (S, M) (gX4_hopes S p0 p1 x2 M) := by
  refine CT.of (by decide) (Nat.le_of_ble_eq_true rfl) ?_
  show AJ _ _ _ _ 0 [(0, .ref (p0)), (1, .ref (p1)), (2, .int (x2))] [] _ _
  unfold gX4_hopes
  refine aj_iconst (v := (0 : Int32)) dX4_hopes_0 (by decide) ?_
  refine aj_istore_n (ls2 := [(3, .int ((0 : Int32))), (0, .ref (p0)), (1, .ref (p1)), (2, .int (x2))]) dX4_hopes_1 rfl (Nat.le_of_ble_eq_true rfl) rfl ?_
  refine aj_iconst (v := (0 : Int32)) dX4_hopes_2 (by decide) ?_
  refine aj_istore (ls2 := [(4, .int ((0 : Int32))), (3, .int ((0 : Int32))), (0, .ref (p0)), (1, .ref (p1)), (2, .int (x2))]) dX4_hopes_3 (Nat.le_of_ble_eq_true rfl) rfl ?_
  refine AJ.sub [2, 3, 4, 1, 0] rfl ?_
  exact t_X4_hopes_5 w S zfu (p0) (p1) (x2) ((0 : Int32)) ((0 : Int32)) M
def gX4_seek_77 (S : List (Nat × Nat)) (rk : Nat → Int32 → Nat → zM → Option zM) : Nat → Nat → Int32 → Nat → Nat → Option Nat → Int32 → zM → Option zM
  | 0 => fun _ _ _ _ _ _ _ => none
  | n + 1 => fun p0 x1 p2 p3 q4 x5 M => zgR S M (p0) 4 9 7 (fun r1 => zgI S M (r1) 10 18 1 (fun v2 => (if v2 ≤ x5 then some M else zcs (q4) (some M) (fun r3 => zgR S M (p0) 4 9 3 (fun r4 => zrc S (r4) 5 1 ((gX5_set S (r4) (x1) (x5) M).bind (fun M5 => zrc S (r3) 7 15 ((gX7_copy S (r3) (p3) M5).bind (fun M6 => zpI S M6 (r3) 7 15 3 (x5) (fun M7 => zrc S (p2) 0 6 ((gX0_dayGoes S (p2) (r3) M7).bind (fun M8 => (rk (p0) ((x1 + (1 : Int32))) (p2) M8).bind (fun M9 => (gX4_seek_77 S rk  n) (p0) (x1) (p2) (p3) (some (r3)) ((x5 + (1 : Int32))) M9)))))))))))))
set_option maxHeartbeats 4000000 in
set_option maxRecDepth 100000 in
theorem t_X4_seek_77 (w : zWd) (S : List (Nat × Nat)) (rk : Nat → Int32 → Nat → zM → Option zM) (n9 : Nat) (hrk : ∀ (p0 : Nat) (x1 : Int32) (p2 : Nat) (M : zM), CT (zfVM S) w (7 + n9) mX4_seek [.ref (p0), .int (x1), .ref (p2)] (S, M) (rk p0 x1 p2 M)) (fu : Nat) : ∀ (p0 : Nat) (x1 : Int32) (p2 : Nat) (p3 : Nat) (q4 : Option Nat) (x5 : Int32) (M : zM), AJ (zfVM S) w (7 + n9 + 1) mX4_seek 77 [(0, .ref (p0)), (1, .int (x1)), (2, .ref (p2)), (3, .ref (p3)), (4, va_rf (q4)), (5, .int (x5))] [] (S, M) (gX4_seek_77 S rk fu p0 x1 p2 p3 q4 x5 M) := by
  induction fu with
  | zero => intro p0 x1 p2 p3 q4 x5 M; exact AJ.none
  | succ n ih =>
    intro p0 x1 p2 p3 q4 x5 M
    unfold gX4_seek_77
    refine aj_iload (5) dX4_seek_77 rfl ?_
    refine aj_aload_n (0) dX4_seek_79 rfl rfl ?_
    refine aj_getR (TX := TX4) zc4 (by decide) rfl (Or.inl zg_539) dX4_seek_80 (fun r1 => ?_)
    refine r_getI (TX := TX10) zc10 (by decide) rfl (Or.inr ⟨_, zn_184⟩) dX4_seek_83 (fun v2 => ?_)
    refine aj_icmp_ge (tgt := 137) dX4_seek_86 (by decide) (fun h => ?_) (fun h => ?_)
    · exact aj_vret dX4_seek_137 rfl rfl
    refine r_aloadQ (4) dX4_seek_89 rfl ?_
    refine r_ifnullQ (L := fun q9 => [(0, .ref (p0)), (1, .int (x1)), (2, .ref (p2)), (3, .ref (p3)), (4, va_rf (q9)), (5, .int (x5))]) (tgt := 137) dX4_seek_91 (by decide) ?_ (fun r3 => ?_)
    · show AJ _ _ _ _ _ [(0, .ref (p0)), (1, .int (x1)), (2, .ref (p2)), (3, .ref (p3)), (4, va_rf (none)), (5, .int (x5))] _ _ _
      exact aj_vret dX4_seek_137 rfl rfl
    show AJ _ _ _ _ _ [(0, .ref (p0)), (1, .int (x1)), (2, .ref (p2)), (3, .ref (p3)), (4, .ref (r3)), (5, .int (x5))] _ _ _
    refine aj_aload_n (0) dX4_seek_94 rfl rfl ?_
    refine aj_getR (TX := TX4) zc4 (by decide) rfl (Or.inl zg_534) dX4_seek_95 (fun r4 => ?_)
    refine aj_iload_n (1) dX4_seek_98 rfl rfl ?_
    refine aj_iload (5) dX4_seek_99 rfl ?_
    refine rV_VM (as := [.int (x1), .int (x5)]) (c_X5_set w S _ _ _ _) mv_X5_set rfl zg_1016 (by omega) (Nat.le_of_ble_eq_true rfl) dX4_seek_101 (fun M5 => ?_)
    refine aj_aload (4) dX4_seek_104 rfl ?_
    refine aj_aload_n (3) dX4_seek_106 rfl rfl ?_
    refine rV_VM (as := [.ref (p3)]) (c_X7_copy w S _ _ _) mv_X7_copy rfl zg_1036 (by omega) (Nat.le_of_ble_eq_true rfl) dX4_seek_107 (fun M6 => ?_)
    refine aj_aload (4) dX4_seek_110 rfl ?_
    refine aj_iload (5) dX4_seek_112 rfl ?_
    refine r_putI (TX := TX7) zc7 (by decide) rfl rfl rfl rfl (Or.inr ⟨_, zn_338⟩) dX4_seek_114 (fun M7 => ?_)
    refine aj_aload_n (2) dX4_seek_117 rfl rfl ?_
    refine aj_aload (4) dX4_seek_118 rfl ?_
    refine rV_VM (as := [.ref (r3)]) (c_X0_dayGoes w S _ _ _) mv_X0_dayGoes rfl zg_1045 (by omega) (Nat.le_of_ble_eq_true rfl) dX4_seek_120 (fun M8 => ?_)
    refine aj_aload_n (0) dX4_seek_123 rfl rfl ?_
    refine aj_iload_n (1) dX4_seek_124 rfl rfl ?_
    refine aj_iconst (v := (1 : Int32)) dX4_seek_125 (by decide) ?_
    refine aj_iadd dX4_seek_126 ?_
    refine aj_aload_n (2) dX4_seek_127 rfl rfl ?_
    refine rS_VM (as := [.ref (p0), .int ((x1 + (1 : Int32))), .ref (p2)]) (hrk _ _ _ _) ms_X4_seek rfl zg_1046 (by omega) (Nat.le_of_ble_eq_true rfl) dX4_seek_128 (fun M9 => ?_)
    refine aj_iinc (j := 5) (v := (x5 + (1 : Int32))) (ls2 := [(5, .int ((x5 + (1 : Int32)))), (0, .ref (p0)), (1, .int (x1)), (2, .ref (p2)), (3, .ref (p3)), (4, .ref (r3))]) dX4_seek_131 rfl rfl (Nat.le_of_ble_eq_true rfl) rfl ?_
    refine aj_goto (tgt := 77) dX4_seek_134 (by decide) ?_
    refine AJ.sub [1, 2, 3, 4, 5, 0] rfl ?_
    exact ih (p0) (x1) (p2) (p3) (some (r3)) ((x5 + (1 : Int32))) M9
def gX4_seekB (S : List (Nat × Nat)) (rk : Nat → Int32 → Nat → zM → Option zM) (p0 : Nat) (x1 : Int32) (p2 : Nat) (M : zM) : Option zM := zrc S (p0) 4 9 ((gX4_stateBehind S (p0) (x1) M).bind (fun q1 => zrc S (p0) 4 9 ((gX4_stateBehind S (p0) ((x1 + (1 : Int32))) M).bind (fun q2 => zcs (q1) (some M) (fun r3 => zgI S M (p0) 4 9 5 (fun v4 => zrc S (p0) 4 9 ((gX4_hopes S (p0) (r3) ((v4 - x1)) M).bind (fun v5 => zgI S M (p0) 4 9 6 (fun v6 => (if v6 < v5 then zgI S M (p0) 4 9 5 (fun v7 => (if x1 = v7 then zgR S M (p0) 4 9 7 (fun r8 => zgI S M (r8) 10 18 10 (fun v9 => zgI S M (r3) 7 15 5 (fun v10 => zpI S M (p0) 4 9 6 ((v9 - v10)) (fun M11 => zgR S M11 (p0) 4 9 2 (fun r12 => zgR S M11 (p0) 4 9 3 (fun r13 => zrc S (r12) 5 1 ((gX5_copy S (r12) (r13) M11).bind (fun M14 => some M14)))))))) else gX4_seek_77 S rk zfu (p0) (x1) (p2) (r3) (q2) ((0 : Int32)) M)) else some M))))))))))
set_option maxHeartbeats 4000000 in
set_option maxRecDepth 100000 in
theorem c_X4_seekB (w : zWd) (S : List (Nat × Nat)) (rk : Nat → Int32 → Nat → zM → Option zM) (n9 : Nat) (hrk : ∀ (p0 : Nat) (x1 : Int32) (p2 : Nat) (M : zM), CT (zfVM S) w (7 + n9) mX4_seek [.ref (p0), .int (x1), .ref (p2)] (S, M) (rk p0 x1 p2 M)) (p0 : Nat) (x1 : Int32) (p2 : Nat) (M : zM) : CT (zfVM S) w (7 + n9 + 1) mX4_seek [.ref (p0), .int (x1), .ref (p2)] (S, M) (gX4_seekB S rk p0 x1 p2 M) := by
  refine CT.of (by decide) (Nat.le_of_ble_eq_true rfl) ?_
  show AJ _ _ _ _ 0 [(0, .ref (p0)), (1, .int (x1)), (2, .ref (p2))] [] _ _
  unfold gX4_seekB
  refine aj_aload_n (0) dX4_seek_0 rfl rfl ?_
  refine aj_iload_n (1) dX4_seek_1 rfl rfl ?_
  refine rV_Q (as := [.int (x1)]) (c_X4_stateBehind w S _ _ _) mv_X4_stateBehind rfl zg_1032 (by omega) (Nat.le_of_ble_eq_true rfl) dX4_seek_2 (fun q1 => ?_)
  refine r_astore_nQ (ls2 := [(3, va_rf (q1)), (0, .ref (p0)), (1, .int (x1)), (2, .ref (p2))]) dX4_seek_5 rfl (Nat.le_of_ble_eq_true rfl) (by cases q1 <;> rfl) ?_
  refine aj_aload_n (1) dX4_seek_6 rfl rfl ?_
  refine aj_iload_n (2) dX4_seek_7 rfl rfl ?_
  refine aj_iconst (v := (1 : Int32)) dX4_seek_8 (by decide) ?_
  refine aj_iadd dX4_seek_9 ?_
  refine rV_Q (as := [.int ((x1 + (1 : Int32)))]) (c_X4_stateBehind w S _ _ _) mv_X4_stateBehind rfl zg_1032 (by omega) (Nat.le_of_ble_eq_true rfl) dX4_seek_10 (fun q2 => ?_)
  refine r_astoreQ (ls2 := [(4, va_rf (q2)), (3, va_rf (q1)), (0, .ref (p0)), (1, .int (x1)), (2, .ref (p2))]) dX4_seek_13 (Nat.le_of_ble_eq_true rfl) (by cases q2 <;> cases q1 <;> rfl) ?_
  refine r_aload_nQ (1) dX4_seek_15 rfl rfl ?_
  refine r_ifnullQ (L := fun q9 => [(4, va_rf (q2)), (3, va_rf (q9)), (0, .ref (p0)), (1, .int (x1)), (2, .ref (p2))]) (tgt := 37) dX4_seek_16 (by decide) ?_ (fun r3 => ?_)
  · show AJ _ _ _ _ _ [(4, va_rf (q2)), (3, va_rf (none)), (0, .ref (p0)), (1, .int (x1)), (2, .ref (p2))] _ _ _
    exact aj_vret dX4_seek_37 rfl rfl
  show AJ _ _ _ _ _ [(4, va_rf (q2)), (3, .ref (r3)), (0, .ref (p0)), (1, .int (x1)), (2, .ref (p2))] _ _ _
  refine aj_aload_n (2) dX4_seek_19 rfl rfl ?_
  refine aj_aload_n (1) dX4_seek_20 rfl rfl ?_
  refine aj_aload_n (2) dX4_seek_21 rfl rfl ?_
  refine r_getI (TX := TX4) zc4 (by decide) rfl (Or.inl zg_536) dX4_seek_22 (fun v4 => ?_)
  refine aj_iload_n (3) dX4_seek_25 rfl rfl ?_
  refine aj_isub dX4_seek_26 ?_
  refine rV_I (as := [.ref (r3), .int ((v4 - x1))]) (c_X4_hopes w S _ _ _ _) mv_X4_hopes rfl zg_1040 (by omega) (Nat.le_of_ble_eq_true rfl) dX4_seek_27 (fun v5 => ?_)
  refine aj_aload_n (2) dX4_seek_30 rfl rfl ?_
  refine r_getI (TX := TX4) zc4 (by decide) rfl (Or.inl zg_537) dX4_seek_31 (fun v6 => ?_)
  refine aj_icmp_gt (tgt := 38) dX4_seek_34 (by decide) (fun h => ?_) (fun h => ?_)
  · refine aj_iload_n (3) dX4_seek_38 rfl rfl ?_
    refine aj_aload_n (2) dX4_seek_39 rfl rfl ?_
    refine r_getI (TX := TX4) zc4 (by decide) rfl (Or.inl zg_536) dX4_seek_40 (fun v7 => ?_)
    refine aj_icmp_ne (tgt := 74) dX4_seek_43 (by decide) (fun h => ?_) (fun h => ?_)
    · refine aj_iconst (v := (0 : Int32)) dX4_seek_74 (by decide) ?_
      refine aj_istore (ls2 := [(5, .int ((0 : Int32))), (4, va_rf (q2)), (3, .ref (r3)), (0, .ref (p0)), (1, .int (x1)), (2, .ref (p2))]) dX4_seek_75 (Nat.le_of_ble_eq_true rfl) (by cases q2 <;> rfl) ?_
      refine AJ.sub [3, 4, 5, 2, 1, 0] rfl ?_
      exact t_X4_seek_77 w S rk n9 hrk zfu (p0) (x1) (p2) (r3) (q2) ((0 : Int32)) M
    refine aj_aload_n (2) dX4_seek_46 rfl rfl ?_
    refine aj_aload_n (2) dX4_seek_47 rfl rfl ?_
    refine aj_getR (TX := TX4) zc4 (by decide) rfl (Or.inl zg_539) dX4_seek_48 (fun r8 => ?_)
    refine r_getI (TX := TX10) zc10 (by decide) rfl (Or.inr ⟨_, zn_214⟩) dX4_seek_51 (fun v9 => ?_)
    refine aj_aload_n (1) dX4_seek_54 rfl rfl ?_
    refine r_getI (TX := TX7) zc7 (by decide) rfl (Or.inr ⟨_, zn_344⟩) dX4_seek_55 (fun v10 => ?_)
    refine aj_isub dX4_seek_58 ?_
    refine r_putI (TX := TX4) zc4 (by decide) rfl rfl rfl rfl (Or.inl zg_537) dX4_seek_59 (fun M11 => ?_)
    refine aj_aload_n (2) dX4_seek_62 rfl rfl ?_
    refine aj_getR (TX := TX4) zc4 (by decide) rfl (Or.inl zg_532) dX4_seek_63 (fun r12 => ?_)
    refine aj_aload_n (2) dX4_seek_66 rfl rfl ?_
    refine aj_getR (TX := TX4) zc4 (by decide) rfl (Or.inl zg_534) dX4_seek_67 (fun r13 => ?_)
    refine rV_VM (as := [.ref (r13)]) (c_X5_copy w S _ _ _) mv_X5_copy rfl zg_1044 (by omega) (Nat.le_of_ble_eq_true rfl) dX4_seek_70 (fun M14 => ?_)
    exact aj_vret dX4_seek_73 rfl rfl
  exact aj_vret dX4_seek_37 rfl rfl
def gX4_seek (S : List (Nat × Nat)) : Nat → Nat → Int32 → Nat → zM → Option zM
  | 0 => fun _ _ _ _ => none
  | n + 1 => fun p0 x1 p2 M => gX4_seekB S (gX4_seek S n) p0 x1 p2 M
theorem c_X4_seek (w : zWd) (S : List (Nat × Nat)) (n : Nat) : ∀ (p0 : Nat) (x1 : Int32) (p2 : Nat) (M : zM), CT (zfVM S) w (7 + n) mX4_seek [.ref (p0), .int (x1), .ref (p2)] (S, M) (gX4_seek S n p0 x1 p2 M) := by
  induction n with
  | zero => intro p0 x1 p2 M r h; cases h
  | succ n ih => intro p0 x1 p2 M; exact c_X4_seekB w S _ n ih p0 x1 p2 M
