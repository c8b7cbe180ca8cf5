/-! DayOpeners$Told: functions of its methods and their contracts: written by wip/whole/gen/dec.py -/
def gX10_init (p0 : Nat) (S : List (Nat × Nat)) (M : zM) : Option zH := znew S M 5 1 (fun S1 M2 r3 => zmk2 S1 (gX5_init (r3) ((6 : Int32)) S1 M2) (fun S4 M5 => zpR S4 M5 (p0) 10 18 2 (some (r3)) (fun M6 => znew S4 M6 5 1 (fun S7 M8 r9 => zmk2 S7 (gX5_init (r9) ((6 : Int32)) S7 M8) (fun S10 M11 => zpR S10 M11 (p0) 10 18 3 (some (r9)) (fun M12 => znew S10 M12 5 1 (fun S13 M14 r15 => zmk2 S13 (gX5_init (r15) ((6 : Int32)) S13 M14) (fun S16 M17 => zpR S16 M17 (p0) 10 18 4 (some (r15)) (fun M18 => znew S16 M18 5 1 (fun S19 M20 r21 => zmk2 S19 (gX5_init (r21) ((12 : Int32)) S19 M20) (fun S22 M23 => zpR S22 M23 (p0) 10 18 6 (some (r21)) (fun M24 => znew S22 M24 5 1 (fun S25 M26 r27 => zmk2 S25 (gX5_init (r27) ((10 : Int32)) S25 M26) (fun S28 M29 => zpR S28 M29 (p0) 10 18 8 (some (r27)) (fun M30 => znew S28 M30 5 1 (fun S31 M32 r33 => zmk2 S31 (gX5_init (r33) ((10 : Int32)) S31 M32) (fun S34 M35 => zpR S34 M35 (p0) 10 18 9 (some (r33)) (fun M36 => znew S34 M36 5 1 (fun S37 M38 r39 => zmk2 S37 (gX5_init (r39) ((5 : Int32)) S37 M38) (fun S40 M41 => zpR S40 M41 (p0) 10 18 11 (some (r39)) (fun M42 => znew S40 M42 5 1 (fun S43 M44 r45 => zmk2 S43 (gX5_init (r45) ((5 : Int32)) S43 M44) (fun S46 M47 => zpR S46 M47 (p0) 10 18 12 (some (r45)) (fun M48 => znew S46 M48 5 1 (fun S49 M50 r51 => zmk2 S49 (gX5_init (r51) ((5 : Int32)) S49 M50) (fun S52 M53 => zpR S52 M53 (p0) 10 18 13 (some (r51)) (fun M54 => znew S52 M54 5 1 (fun S55 M56 r57 => zmk2 S55 (gX5_init (r57) ((5 : Int32)) S55 M56) (fun S58 M59 => zpR S58 M59 (p0) 10 18 14 (some (r57)) (fun M60 => znew S58 M60 1 7 (fun S61 M62 r63 => zmk2 S61 (gX1_init (r63) S61 M62) (fun S64 M65 => zpR S64 M65 (p0) 10 18 17 (some (r63)) (fun M66 => some (S64, M66))))))))))))))))))))))))))))))))))
set_option maxHeartbeats 4000000 in
set_option maxRecDepth 100000 in
theorem c_X10_init (w : zWd) (hz : zSZ w) (hg : w.2.2.2.2.2 = 0) (p0 : Nat) (S : List (Nat × Nat)) (M : zM) : CT zfC w 4 mX10_init [.ref (p0)] (S, M) (gX10_init p0 S M) := by
  refine CT.of (by decide) (Nat.le_of_ble_eq_true rfl) ?_
  show AJ _ _ _ _ 0 [(0, .ref (p0))] [] _ _
  unfold gX10_init
  refine aj_aload_n (0) dX10_init_0 rfl rfl ?_
  refine aj_obj zg_145 zg_31 zg_32 (by decide) (Nat.le_of_ble_eq_true rfl) dX10_init_1 ?_
  refine aj_aload_n (0) dX10_init_4 rfl rfl ?_
  refine r_new (TX := TX5) hg zc5 zg_146 zg_34 zg_2 dX10_init_5 (fun S1 M2 r3 => ?_)
  refine aj_dup dX10_init_8 rfl ?_
  refine aj_bipush (v := (6 : Int32)) dX10_init_9 (by decide) ?_
  refine rC (as := [.int ((6 : Int32))]) hg (c_X5_init w hz hg _ _ _ _) mc_X5_init rfl (Or.inl zg_147) (by decide) (Nat.le_of_ble_eq_true rfl) dX10_init_11 (fun S4 M5 => ?_)
  refine r_putR (TX := TX10) zc10 (by decide) rfl (Or.inr ⟨rfl, rfl, rfl, zg_188⟩) (Or.inl zg_188) dX10_init_14 (fun M6 => ?_)
  refine aj_aload_n (0) dX10_init_17 rfl rfl ?_
  refine r_new (TX := TX5) hg zc5 zg_146 zg_34 zg_2 dX10_init_18 (fun S7 M8 r9 => ?_)
  refine aj_dup dX10_init_21 rfl ?_
  refine aj_bipush (v := (6 : Int32)) dX10_init_22 (by decide) ?_
  refine rC (as := [.int ((6 : Int32))]) hg (c_X5_init w hz hg _ _ _ _) mc_X5_init rfl (Or.inl zg_147) (by decide) (Nat.le_of_ble_eq_true rfl) dX10_init_24 (fun S10 M11 => ?_)
  refine r_putR (TX := TX10) zc10 (by decide) rfl (Or.inr ⟨rfl, rfl, rfl, zg_190⟩) (Or.inl zg_190) dX10_init_27 (fun M12 => ?_)
  refine aj_aload_n (0) dX10_init_30 rfl rfl ?_
  refine r_new (TX := TX5) hg zc5 zg_146 zg_34 zg_2 dX10_init_31 (fun S13 M14 r15 => ?_)
  refine aj_dup dX10_init_34 rfl ?_
  refine aj_bipush (v := (6 : Int32)) dX10_init_35 (by decide) ?_
  refine rC (as := [.int ((6 : Int32))]) hg (c_X5_init w hz hg _ _ _ _) mc_X5_init rfl (Or.inl zg_147) (by decide) (Nat.le_of_ble_eq_true rfl) dX10_init_37 (fun S16 M17 => ?_)
  refine r_putR (TX := TX10) zc10 (by decide) rfl (Or.inr ⟨rfl, rfl, rfl, zg_194⟩) (Or.inl zg_194) dX10_init_40 (fun M18 => ?_)
  refine aj_aload_n (0) dX10_init_43 rfl rfl ?_
  refine r_new (TX := TX5) hg zc5 zg_146 zg_34 zg_2 dX10_init_44 (fun S19 M20 r21 => ?_)
  refine aj_dup dX10_init_47 rfl ?_
  refine aj_bipush (v := (12 : Int32)) dX10_init_48 (by decide) ?_
  refine rC (as := [.int ((12 : Int32))]) hg (c_X5_init w hz hg _ _ _ _) mc_X5_init rfl (Or.inl zg_147) (by decide) (Nat.le_of_ble_eq_true rfl) dX10_init_50 (fun S22 M23 => ?_)
  refine r_putR (TX := TX10) zc10 (by decide) rfl (Or.inr ⟨rfl, rfl, rfl, zg_202⟩) (Or.inl zg_202) dX10_init_53 (fun M24 => ?_)
  refine aj_aload_n (0) dX10_init_56 rfl rfl ?_
  refine r_new (TX := TX5) hg zc5 zg_146 zg_34 zg_2 dX10_init_57 (fun S25 M26 r27 => ?_)
  refine aj_dup dX10_init_60 rfl ?_
  refine aj_bipush (v := (10 : Int32)) dX10_init_61 (by decide) ?_
  refine rC (as := [.int ((10 : Int32))]) hg (c_X5_init w hz hg _ _ _ _) mc_X5_init rfl (Or.inl zg_147) (by decide) (Nat.le_of_ble_eq_true rfl) dX10_init_63 (fun S28 M29 => ?_)
  refine r_putR (TX := TX10) zc10 (by decide) rfl (Or.inr ⟨rfl, rfl, rfl, zg_208⟩) (Or.inl zg_208) dX10_init_66 (fun M30 => ?_)
  refine aj_aload_n (0) dX10_init_69 rfl rfl ?_
  refine r_new (TX := TX5) hg zc5 zg_146 zg_34 zg_2 dX10_init_70 (fun S31 M32 r33 => ?_)
  refine aj_dup dX10_init_73 rfl ?_
  refine aj_bipush (v := (10 : Int32)) dX10_init_74 (by decide) ?_
  refine rC (as := [.int ((10 : Int32))]) hg (c_X5_init w hz hg _ _ _ _) mc_X5_init rfl (Or.inl zg_147) (by decide) (Nat.le_of_ble_eq_true rfl) dX10_init_76 (fun S34 M35 => ?_)
  refine r_putR (TX := TX10) zc10 (by decide) rfl (Or.inr ⟨rfl, rfl, rfl, zg_210⟩) (Or.inl zg_210) dX10_init_79 (fun M36 => ?_)
  refine aj_aload_n (0) dX10_init_82 rfl rfl ?_
  refine r_new (TX := TX5) hg zc5 zg_146 zg_34 zg_2 dX10_init_83 (fun S37 M38 r39 => ?_)
  refine aj_dup dX10_init_86 rfl ?_
  refine aj_iconst (v := (5 : Int32)) dX10_init_87 (by decide) ?_
  refine rC (as := [.int ((5 : Int32))]) hg (c_X5_init w hz hg _ _ _ _) mc_X5_init rfl (Or.inl zg_147) (by decide) (Nat.le_of_ble_eq_true rfl) dX10_init_88 (fun S40 M41 => ?_)
  refine r_putR (TX := TX10) zc10 (by decide) rfl (Or.inr ⟨rfl, rfl, rfl, zg_217⟩) (Or.inl zg_217) dX10_init_91 (fun M42 => ?_)
  refine aj_aload_n (0) dX10_init_94 rfl rfl ?_
  refine r_new (TX := TX5) hg zc5 zg_146 zg_34 zg_2 dX10_init_95 (fun S43 M44 r45 => ?_)
  refine aj_dup dX10_init_98 rfl ?_
  refine aj_iconst (v := (5 : Int32)) dX10_init_99 (by decide) ?_
  refine rC (as := [.int ((5 : Int32))]) hg (c_X5_init w hz hg _ _ _ _) mc_X5_init rfl (Or.inl zg_147) (by decide) (Nat.le_of_ble_eq_true rfl) dX10_init_100 (fun S46 M47 => ?_)
  refine r_putR (TX := TX10) zc10 (by decide) rfl (Or.inr ⟨rfl, rfl, rfl, zg_219⟩) (Or.inl zg_219) dX10_init_103 (fun M48 => ?_)
  refine aj_aload_n (0) dX10_init_106 rfl rfl ?_
  refine r_new (TX := TX5) hg zc5 zg_146 zg_34 zg_2 dX10_init_107 (fun S49 M50 r51 => ?_)
  refine aj_dup dX10_init_110 rfl ?_
  refine aj_iconst (v := (5 : Int32)) dX10_init_111 (by decide) ?_
  refine rC (as := [.int ((5 : Int32))]) hg (c_X5_init w hz hg _ _ _ _) mc_X5_init rfl (Or.inl zg_147) (by decide) (Nat.le_of_ble_eq_true rfl) dX10_init_112 (fun S52 M53 => ?_)
  refine r_putR (TX := TX10) zc10 (by decide) rfl (Or.inr ⟨rfl, rfl, rfl, zg_224⟩) (Or.inl zg_224) dX10_init_115 (fun M54 => ?_)
  refine aj_aload_n (0) dX10_init_118 rfl rfl ?_
  refine r_new (TX := TX5) hg zc5 zg_146 zg_34 zg_2 dX10_init_119 (fun S55 M56 r57 => ?_)
  refine aj_dup dX10_init_122 rfl ?_
  refine aj_iconst (v := (5 : Int32)) dX10_init_123 (by decide) ?_
  refine rC (as := [.int ((5 : Int32))]) hg (c_X5_init w hz hg _ _ _ _) mc_X5_init rfl (Or.inl zg_147) (by decide) (Nat.le_of_ble_eq_true rfl) dX10_init_124 (fun S58 M59 => ?_)
  refine r_putR (TX := TX10) zc10 (by decide) rfl (Or.inr ⟨rfl, rfl, rfl, zg_229⟩) (Or.inl zg_229) dX10_init_127 (fun M60 => ?_)
  refine aj_aload_n (0) dX10_init_130 rfl rfl ?_
  refine r_new (TX := TX1) hg zc1 zg_148 zg_149 zg_11 dX10_init_131 (fun S61 M62 r63 => ?_)
  refine aj_dup dX10_init_134 rfl ?_
  refine rC (as := []) hg (c_X1_init w hz hg _ _ _) mc_X1_init rfl (Or.inr ⟨_, zn_150⟩) (by decide) (Nat.le_of_ble_eq_true rfl) dX10_init_135 (fun S64 M65 => ?_)
  refine r_putR (TX := TX10) zc10 (by decide) rfl (Or.inr ⟨rfl, rfl, rfl, zg_241⟩) (Or.inl zg_241) dX10_init_138 (fun M66 => ?_)
  exact aj_vret dX10_init_141 rfl rfl
def gX10_find_2 (S : List (Nat × Nat)) : Nat → Nat → Int32 → Int32 → Int32 → zM → Option Int32
  | 0 => fun _ _ _ _ _ => none
  | n + 1 => fun p0 x1 x2 x3 M => (if x1 ≤ x3 then some ((-1 : Int32)) else zrc S (p0) 5 1 ((gX5_get S (p0) (x3) M).bind (fun v1 => (if v1 = x2 then some (x3) else (gX10_find_2 S   n) (p0) (x1) (x2) ((x3 + (1 : Int32))) M))))
set_option maxHeartbeats 4000000 in
set_option maxRecDepth 100000 in
theorem t_X10_find_2 (w : zWd) (S : List (Nat × Nat)) (fu : Nat) : ∀ (p0 : Nat) (x1 : Int32) (x2 : Int32) (x3 : Int32) (M : zM), AJ (zfI S M) w 2 mX10_find 2 [(0, .ref (p0)), (1, .int (x1)), (2, .int (x2)), (3, .int (x3))] [] (S, M) (gX10_find_2 S fu p0 x1 x2 x3 M) := by
  induction fu with
  | zero => intro p0 x1 x2 x3 M; exact AJ.none
  | succ n ih =>
    intro p0 x1 x2 x3 M
    unfold gX10_find_2
    refine aj_iload_n (3) dX10_find_2 rfl rfl ?_
    refine aj_iload_n (1) dX10_find_3 rfl rfl ?_
    refine aj_icmp_ge (tgt := 24) dX10_find_4 (by decide) (fun h => ?_) (fun h => ?_)
    · refine aj_iconst (v := (-1 : Int32)) dX10_find_24 (by decide) ?_
      exact aj_iret dX10_find_25 rfl rfl rfl
    refine aj_aload_n (0) dX10_find_7 rfl rfl ?_
    refine aj_iload_n (3) dX10_find_8 rfl rfl ?_
    refine rV_I (as := [.int (x3)]) (c_X5_get w S _ _ _) mv_X5_get rfl zg_693 (by decide) (Nat.le_of_ble_eq_true rfl) dX10_find_9 (fun v1 => ?_)
    refine aj_iload_n (2) dX10_find_12 rfl rfl ?_
    refine aj_icmp_ne (tgt := 18) dX10_find_13 (by decide) (fun h => ?_) (fun h => ?_)
    · refine aj_iinc (j := 3) (v := (x3 + (1 : Int32))) (ls2 := [(3, .int ((x3 + (1 : Int32)))), (0, .ref (p0)), (1, .int (x1)), (2, .int (x2))]) dX10_find_18 rfl rfl (Nat.le_of_ble_eq_true rfl) rfl ?_
      refine aj_goto (tgt := 2) dX10_find_21 (by decide) ?_
      refine AJ.sub [1, 2, 3, 0] rfl ?_
      exact ih (p0) (x1) (x2) ((x3 + (1 : Int32))) M
    refine aj_iload_n (3) dX10_find_16 rfl rfl ?_
    exact aj_iret dX10_find_17 rfl rfl rfl
def gX10_find (S : List (Nat × Nat)) (p0 : Nat) (x1 : Int32) (x2 : Int32) (M : zM) : Option Int32 := gX10_find_2 S zfu (p0) (x1) (x2) ((0 : Int32)) M
set_option maxHeartbeats 4000000 in
set_option maxRecDepth 100000 in
theorem c_X10_find (w : zWd) (S : List (Nat × Nat)) (p0 : Nat) (x1 : Int32) (x2 : Int32) (M : zM) : CT (zfI S M) w 2 mX10_find [.ref (p0), .int (x1), .int (x2)] (S, M) (gX10_find S p0 x1 x2 M) := by
  refine CT.of (by decide) (Nat.le_of_ble_eq_true rfl) ?_
  show AJ _ _ _ _ 0 [(0, .ref (p0)), (1, .int (x1)), (2, .int (x2))] [] _ _
  unfold gX10_find
  refine aj_iconst (v := (0 : Int32)) dX10_find_0 (by decide) ?_
  refine aj_istore_n (ls2 := [(3, .int ((0 : Int32))), (0, .ref (p0)), (1, .int (x1)), (2, .int (x2))]) dX10_find_1 rfl (Nat.le_of_ble_eq_true rfl) rfl ?_
  refine AJ.sub [1, 2, 3, 0] rfl ?_
  exact t_X10_find_2 w S zfu (p0) (x1) (x2) ((0 : Int32)) M
def gX10_claimant (S : List (Nat × Nat)) (p0 : Nat) (x1 : Int32) (M : zM) : Option Int32 := zgR S M (p0) 10 18 9 (fun r1 => zgI S M (p0) 10 18 7 (fun v2 => (gX10_find S (r1) (v2) (x1) M).bind (fun v3 => (if v3 = (-1 : Int32) then some ((-1 : Int32)) else zgR S M (p0) 10 18 8 (fun r4 => zrc S (r4) 5 1 ((gX5_get S (r4) (v3) M).bind (fun v5 => some (v5))))))))
set_option maxHeartbeats 4000000 in
set_option maxRecDepth 100000 in
theorem c_X10_claimant (w : zWd) (S : List (Nat × Nat)) (p0 : Nat) (x1 : Int32) (M : zM) : CT (zfI S M) w 3 mX10_claimant [.ref (p0), .int (x1)] (S, M) (gX10_claimant S p0 x1 M) := by
  refine CT.of (by decide) (Nat.le_of_ble_eq_true rfl) ?_
  show AJ _ _ _ _ 0 [(0, .ref (p0)), (1, .int (x1))] [] _ _
  unfold gX10_claimant
  refine aj_aload_n (0) dX10_claimant_0 rfl rfl ?_
  refine aj_getR (TX := TX10) zc10 (by decide) rfl (Or.inl zg_210) dX10_claimant_1 (fun r1 => ?_)
  refine aj_aload_n (0) dX10_claimant_4 rfl rfl ?_
  refine r_getI (TX := TX10) zc10 (by decide) rfl (Or.inl zg_205) dX10_claimant_5 (fun v2 => ?_)
  refine aj_iload_n (1) dX10_claimant_8 rfl rfl ?_
  refine rS_I (as := [.ref (r1), .int (v2), .int (x1)]) (c_X10_find w S _ _ _ _) ms_X10_find rfl zg_690 (by decide) (Nat.le_of_ble_eq_true rfl) dX10_claimant_9 (fun v3 => ?_)
  refine aj_istore_n (ls2 := [(2, .int (v3)), (0, .ref (p0)), (1, .int (x1))]) dX10_claimant_12 rfl (Nat.le_of_ble_eq_true rfl) rfl ?_
  refine aj_iload_n (0) dX10_claimant_13 rfl rfl ?_
  refine aj_iconst (v := (-1 : Int32)) dX10_claimant_14 (by decide) ?_
  refine aj_icmp_ne (tgt := 22) dX10_claimant_15 (by decide) (fun h => ?_) (fun h => ?_)
  · refine aj_aload_n (1) dX10_claimant_22 rfl rfl ?_
    refine aj_getR (TX := TX10) zc10 (by decide) rfl (Or.inl zg_208) dX10_claimant_23 (fun r4 => ?_)
    refine aj_iload_n (0) dX10_claimant_26 rfl rfl ?_
    refine rV_I (as := [.int (v3)]) (c_X5_get w S _ _ _) mv_X5_get rfl zg_693 (by decide) (Nat.le_of_ble_eq_true rfl) dX10_claimant_27 (fun v5 => ?_)
    exact aj_iret dX10_claimant_30 rfl rfl rfl
  refine aj_iconst (v := (-1 : Int32)) dX10_claimant_18 (by decide) ?_
  refine aj_goto (tgt := 30) dX10_claimant_19 (by decide) ?_
  exact aj_iret dX10_claimant_30 rfl rfl rfl
def gX10_clear (S : List (Nat × Nat)) (p0 : Nat) (M : zM) : Option zM := zpI S M (p0) 10 18 0 ((0 : Int32)) (fun M1 => zpI S M1 (p0) 10 18 1 ((0 : Int32)) (fun M2 => zpI S M2 (p0) 10 18 5 ((0 : Int32)) (fun M3 => zpI S M3 (p0) 10 18 7 ((0 : Int32)) (fun M4 => zpI S M4 (p0) 10 18 10 ((0 : Int32)) (fun M5 => zpI S M5 (p0) 10 18 15 ((0 : Int32)) (fun M6 => zpI S M6 (p0) 10 18 16 ((0 : Int32)) (fun M7 => zgR S M7 (p0) 10 18 17 (fun r8 => zrc S (r8) 1 7 ((gX1_clear S (r8) M7).bind (fun M9 => some M9))))))))))
set_option maxHeartbeats 4000000 in
set_option maxRecDepth 100000 in
theorem c_X10_clear (w : zWd) (S : List (Nat × Nat)) (p0 : Nat) (M : zM) : CT (zfVM S) w 3 mX10_clear [.ref (p0)] (S, M) (gX10_clear S p0 M) := by
  refine CT.of (by decide) (Nat.le_of_ble_eq_true rfl) ?_
  show AJ _ _ _ _ 0 [(0, .ref (p0))] [] _ _
  unfold gX10_clear
  refine aj_aload_n (0) dX10_clear_0 rfl rfl ?_
  refine aj_iconst (v := (0 : Int32)) dX10_clear_1 (by decide) ?_
  refine r_putI (TX := TX10) zc10 (by decide) rfl rfl rfl rfl (Or.inl zg_180) dX10_clear_2 (fun M1 => ?_)
  refine aj_aload_n (0) dX10_clear_5 rfl rfl ?_
  refine aj_iconst (v := (0 : Int32)) dX10_clear_6 (by decide) ?_
  refine r_putI (TX := TX10) zc10 (by decide) rfl rfl rfl rfl (Or.inl zg_183) dX10_clear_7 (fun M2 => ?_)
  refine aj_aload_n (0) dX10_clear_10 rfl rfl ?_
  refine aj_iconst (v := (0 : Int32)) dX10_clear_11 (by decide) ?_
  refine r_putI (TX := TX10) zc10 (by decide) rfl rfl rfl rfl (Or.inl zg_199) dX10_clear_12 (fun M3 => ?_)
  refine aj_aload_n (0) dX10_clear_15 rfl rfl ?_
  refine aj_iconst (v := (0 : Int32)) dX10_clear_16 (by decide) ?_
  refine r_putI (TX := TX10) zc10 (by decide) rfl rfl rfl rfl (Or.inl zg_205) dX10_clear_17 (fun M4 => ?_)
  refine aj_aload_n (0) dX10_clear_20 rfl rfl ?_
  refine aj_iconst (v := (0 : Int32)) dX10_clear_21 (by decide) ?_
  refine r_putI (TX := TX10) zc10 (by decide) rfl rfl rfl rfl (Or.inl zg_212) dX10_clear_22 (fun M5 => ?_)
  refine aj_aload_n (0) dX10_clear_25 rfl rfl ?_
  refine aj_iconst (v := (0 : Int32)) dX10_clear_26 (by decide) ?_
  refine r_putI (TX := TX10) zc10 (by decide) rfl rfl rfl rfl (Or.inl zg_234) dX10_clear_27 (fun M6 => ?_)
  refine aj_aload_n (0) dX10_clear_30 rfl rfl ?_
  refine aj_iconst (v := (0 : Int32)) dX10_clear_31 (by decide) ?_
  refine r_putI (TX := TX10) zc10 (by decide) rfl rfl rfl rfl (Or.inl zg_239) dX10_clear_32 (fun M7 => ?_)
  refine aj_aload_n (0) dX10_clear_35 rfl rfl ?_
  refine aj_getR (TX := TX10) zc10 (by decide) rfl (Or.inl zg_241) dX10_clear_36 (fun r8 => ?_)
  refine rV_VM (as := []) (c_X1_clear w S _ _) mv_X1_clear rfl zg_624 (by decide) (Nat.le_of_ble_eq_true rfl) dX10_clear_39 (fun M9 => ?_)
  exact aj_vret dX10_clear_42 rfl rfl
def gX10_tradeNamed (S : List (Nat × Nat)) (p0 : Nat) (x1 : Int32) (M : zM) : Option Int32 := zgR S M (p0) 10 18 2 (fun r1 => zgI S M (p0) 10 18 1 (fun v2 => (gX10_find S (r1) (v2) (x1) M).bind (fun v3 => some (v3))))
set_option maxHeartbeats 4000000 in
set_option maxRecDepth 100000 in
theorem c_X10_tradeNamed (w : zWd) (S : List (Nat × Nat)) (p0 : Nat) (x1 : Int32) (M : zM) : CT (zfI S M) w 3 mX10_tradeNamed [.ref (p0), .int (x1)] (S, M) (gX10_tradeNamed S p0 x1 M) := by
  refine CT.of (by decide) (Nat.le_of_ble_eq_true rfl) ?_
  show AJ _ _ _ _ 0 [(0, .ref (p0)), (1, .int (x1))] [] _ _
  unfold gX10_tradeNamed
  refine aj_aload_n (0) dX10_tradeNamed_0 rfl rfl ?_
  refine aj_getR (TX := TX10) zc10 (by decide) rfl (Or.inl zg_188) dX10_tradeNamed_1 (fun r1 => ?_)
  refine aj_aload_n (0) dX10_tradeNamed_4 rfl rfl ?_
  refine r_getI (TX := TX10) zc10 (by decide) rfl (Or.inl zg_183) dX10_tradeNamed_5 (fun v2 => ?_)
  refine aj_iload_n (1) dX10_tradeNamed_8 rfl rfl ?_
  refine rS_I (as := [.ref (r1), .int (v2), .int (x1)]) (c_X10_find w S _ _ _ _) ms_X10_find rfl zg_690 (by decide) (Nat.le_of_ble_eq_true rfl) dX10_tradeNamed_9 (fun v3 => ?_)
  exact aj_iret dX10_tradeNamed_12 rfl rfl rfl
def gX10_workNamed (S : List (Nat × Nat)) (p0 : Nat) (x1 : Int32) (M : zM) : Option Int32 := zgR S M (p0) 10 18 11 (fun r1 => zgI S M (p0) 10 18 10 (fun v2 => (gX10_find S (r1) (v2) (x1) M).bind (fun v3 => some (v3))))
set_option maxHeartbeats 4000000 in
set_option maxRecDepth 100000 in
theorem c_X10_workNamed (w : zWd) (S : List (Nat × Nat)) (p0 : Nat) (x1 : Int32) (M : zM) : CT (zfI S M) w 3 mX10_workNamed [.ref (p0), .int (x1)] (S, M) (gX10_workNamed S p0 x1 M) := by
  refine CT.of (by decide) (Nat.le_of_ble_eq_true rfl) ?_
  show AJ _ _ _ _ 0 [(0, .ref (p0)), (1, .int (x1))] [] _ _
  unfold gX10_workNamed
  refine aj_aload_n (0) dX10_workNamed_0 rfl rfl ?_
  refine aj_getR (TX := TX10) zc10 (by decide) rfl (Or.inl zg_217) dX10_workNamed_1 (fun r1 => ?_)
  refine aj_aload_n (0) dX10_workNamed_4 rfl rfl ?_
  refine r_getI (TX := TX10) zc10 (by decide) rfl (Or.inl zg_212) dX10_workNamed_5 (fun v2 => ?_)
  refine aj_iload_n (1) dX10_workNamed_8 rfl rfl ?_
  refine rS_I (as := [.ref (r1), .int (v2), .int (x1)]) (c_X10_find w S _ _ _ _) ms_X10_find rfl zg_690 (by decide) (Nat.le_of_ble_eq_true rfl) dX10_workNamed_9 (fun v3 => ?_)
  exact aj_iret dX10_workNamed_12 rfl rfl rfl
def gX10_hasTrade (S : List (Nat × Nat)) (p0 : Nat) (x1 : Int32) (M : zM) : Option Int32 := (if x1 < 0 then some ((0 : Int32)) else zgI S M (p0) 10 18 1 (fun v1 => (if v1 ≤ x1 then some ((0 : Int32)) else some ((1 : Int32)))))
set_option maxHeartbeats 4000000 in
set_option maxRecDepth 100000 in
theorem c_X10_hasTrade (w : zWd) (S : List (Nat × Nat)) (p0 : Nat) (x1 : Int32) (M : zM) : CT (zfI S M) w 1 mX10_hasTrade [.ref (p0), .int (x1)] (S, M) (gX10_hasTrade S p0 x1 M) := by
  refine CT.of (by decide) (Nat.le_of_ble_eq_true rfl) ?_
  show AJ _ _ _ _ 0 [(0, .ref (p0)), (1, .int (x1))] [] _ _
  unfold gX10_hasTrade
  refine aj_iload_n (1) dX10_hasTrade_0 rfl rfl ?_
  refine aj_if_lt (tgt := 16) dX10_hasTrade_1 (by decide) (fun h => ?_) (fun h => ?_)
  · refine aj_iconst (v := (0 : Int32)) dX10_hasTrade_16 (by decide) ?_
    exact aj_iret dX10_hasTrade_17 rfl (by decide +kernel) rfl
  refine aj_iload_n (1) dX10_hasTrade_4 rfl rfl ?_
  refine aj_aload_n (0) dX10_hasTrade_5 rfl rfl ?_
  refine r_getI (TX := TX10) zc10 (by decide) rfl (Or.inl zg_183) dX10_hasTrade_6 (fun v1 => ?_)
  refine aj_icmp_ge (tgt := 16) dX10_hasTrade_9 (by decide) (fun h => ?_) (fun h => ?_)
  · refine aj_iconst (v := (0 : Int32)) dX10_hasTrade_16 (by decide) ?_
    exact aj_iret dX10_hasTrade_17 rfl (by decide +kernel) rfl
  refine aj_iconst (v := (1 : Int32)) dX10_hasTrade_12 (by decide) ?_
  refine aj_goto (tgt := 17) dX10_hasTrade_13 (by decide) ?_
  exact aj_iret dX10_hasTrade_17 rfl (by decide +kernel) rfl
def gX10_hasWork (S : List (Nat × Nat)) (p0 : Nat) (x1 : Int32) (M : zM) : Option Int32 := (if x1 < 0 then some ((0 : Int32)) else zgI S M (p0) 10 18 10 (fun v1 => (if v1 ≤ x1 then some ((0 : Int32)) else some ((1 : Int32)))))
set_option maxHeartbeats 4000000 in
set_option maxRecDepth 100000 in
theorem c_X10_hasWork (w : zWd) (S : List (Nat × Nat)) (p0 : Nat) (x1 : Int32) (M : zM) : CT (zfI S M) w 1 mX10_hasWork [.ref (p0), .int (x1)] (S, M) (gX10_hasWork S p0 x1 M) := by
  refine CT.of (by decide) (Nat.le_of_ble_eq_true rfl) ?_
  show AJ _ _ _ _ 0 [(0, .ref (p0)), (1, .int (x1))] [] _ _
  unfold gX10_hasWork
  refine aj_iload_n (1) dX10_hasWork_0 rfl rfl ?_
  refine aj_if_lt (tgt := 16) dX10_hasWork_1 (by decide) (fun h => ?_) (fun h => ?_)
  · refine aj_iconst (v := (0 : Int32)) dX10_hasWork_16 (by decide) ?_
    exact aj_iret dX10_hasWork_17 rfl (by decide +kernel) rfl
  refine aj_iload_n (1) dX10_hasWork_4 rfl rfl ?_
  refine aj_aload_n (0) dX10_hasWork_5 rfl rfl ?_
  refine r_getI (TX := TX10) zc10 (by decide) rfl (Or.inl zg_212) dX10_hasWork_6 (fun v1 => ?_)
  refine aj_icmp_ge (tgt := 16) dX10_hasWork_9 (by decide) (fun h => ?_) (fun h => ?_)
  · refine aj_iconst (v := (0 : Int32)) dX10_hasWork_16 (by decide) ?_
    exact aj_iret dX10_hasWork_17 rfl (by decide +kernel) rfl
  refine aj_iconst (v := (1 : Int32)) dX10_hasWork_12 (by decide) ?_
  refine aj_goto (tgt := 17) dX10_hasWork_13 (by decide) ?_
  exact aj_iret dX10_hasWork_17 rfl (by decide +kernel) rfl
