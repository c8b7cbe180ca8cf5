/-! DayOpeners: functions of its methods and their contracts: written by wip/whole/gen/dec.py -/
def gX11_init (p0 : Nat) (S : List (Nat × Nat)) (M : zM) : Option zH := znew S M 5 1 (fun S1 M2 r3 => zmk2 S1 (gX5_init (r3) ((700 : Int32)) S1 M2) (fun S4 M5 => zpR S4 M5 (p0) 11 14 0 (some (r3)) (fun M6 => znew S4 M6 3 10 (fun S7 M8 r9 => zmk2 S7 (gX3_init (r9) S7 M8) (fun S10 M11 => zpR S10 M11 (p0) 11 14 2 (some (r9)) (fun M12 => znew S10 M12 10 18 (fun S13 M14 r15 => zmk2 S13 (gX10_init (r15) S13 M14) (fun S16 M17 => zpR S16 M17 (p0) 11 14 3 (some (r15)) (fun M18 => znew S16 M18 10 18 (fun S19 M20 r21 => zmk2 S19 (gX10_init (r21) S19 M20) (fun S22 M23 => zpR S22 M23 (p0) 11 14 4 (some (r21)) (fun M24 => znew S22 M24 7 15 (fun S25 M26 r27 => zmk2 S25 (gX7_init (r27) S25 M26) (fun S28 M29 => zpR S28 M29 (p0) 11 14 5 (some (r27)) (fun M30 => znew S28 M30 7 15 (fun S31 M32 r33 => zmk2 S31 (gX7_init (r33) S31 M32) (fun S34 M35 => zpR S34 M35 (p0) 11 14 6 (some (r33)) (fun M36 => znew S34 M36 7 15 (fun S37 M38 r39 => zmk2 S37 (gX7_init (r39) S37 M38) (fun S40 M41 => zpR S40 M41 (p0) 11 14 7 (some (r39)) (fun M42 => znew S40 M42 0 6 (fun S43 M44 r45 => zmk2 S43 (gX0_init (r45) S43 M44) (fun S46 M47 => zpR S46 M47 (p0) 11 14 9 (some (r45)) (fun M48 => znew S46 M48 2 10 (fun S49 M50 r51 => zmk2 S49 (gX2_init (r51) S49 M50) (fun S52 M53 => zpR S52 M53 (p0) 11 14 10 (some (r51)) (fun M54 => znew S52 M54 8 2 (fun S55 M56 r57 => zmk2 S55 (gX8_init (r57) S55 M56) (fun S58 M59 => zpR S58 M59 (p0) 11 14 11 (some (r57)) (fun M60 => znew S58 M60 6 3 (fun S61 M62 r63 => zmk2 S61 (gX6_init (r63) S61 M62) (fun S64 M65 => zpR S64 M65 (p0) 11 14 12 (some (r63)) (fun M66 => znew S64 M66 4 9 (fun S67 M68 r69 => zmk2 S67 (gX4_init (r69) S67 M68) (fun S70 M71 => zpR S70 M71 (p0) 11 14 13 (some (r69)) (fun M72 => some (S70, M72)))))))))))))))))))))))))))))))))))))
set_option maxHeartbeats 4000000 in
set_option maxRecDepth 100000 in
theorem c_X11_init (w : zWd) (hz : zSZ w) (hg : w.2.2.2.2.2 = 0) (p0 : Nat) (S : List (Nat × Nat)) (M : zM) : CT zfC w 7 mX11_init [.ref (p0)] (S, M) (gX11_init p0 S M) := by
  refine CT.of (by decide) (Nat.le_of_ble_eq_true rfl) ?_
  show AJ _ _ _ _ 0 [(0, .ref (p0))] [] _ _
  unfold gX11_init
  refine aj_aload_n (0) dX11_init_0 rfl rfl ?_
  refine aj_obj zg_30 zg_31 zg_32 (by decide) (Nat.le_of_ble_eq_true rfl) dX11_init_1 ?_
  refine aj_aload_n (0) dX11_init_4 rfl rfl ?_
  refine r_new (TX := TX5) hg zc5 zg_33 zg_34 zg_2 dX11_init_5 (fun S1 M2 r3 => ?_)
  refine aj_dup dX11_init_8 rfl ?_
  refine aj_sipush (v := (700 : Int32)) dX11_init_9 (by decide) ?_
  refine rC (as := [.int ((700 : Int32))]) hg (c_X5_init w hz hg _ _ _ _) mc_X5_init rfl (Or.inl zg_35) (by decide) (Nat.le_of_ble_eq_true rfl) dX11_init_12 (fun S4 M5 => ?_)
  refine r_putR (TX := TX11) zc11 (by decide) rfl (Or.inr ⟨rfl, rfl, rfl, zg_560⟩) (Or.inl zg_560) dX11_init_15 (fun M6 => ?_)
  refine aj_aload_n (0) dX11_init_18 rfl rfl ?_
  refine r_new (TX := TX3) hg zc3 zg_47 zg_48 zg_4 dX11_init_19 (fun S7 M8 r9 => ?_)
  refine aj_dup dX11_init_22 rfl ?_
  refine rC (as := []) hg (c_X3_init w hz hg _ _ _) mc_X3_init rfl (Or.inr ⟨_, zn_49⟩) (by decide) (Nat.le_of_ble_eq_true rfl) dX11_init_23 (fun S10 M11 => ?_)
  refine r_putR (TX := TX11) zc11 (by decide) rfl (Or.inr ⟨rfl, rfl, rfl, zg_562⟩) (Or.inl zg_562) dX11_init_26 (fun M12 => ?_)
  refine aj_aload_n (0) dX11_init_29 rfl rfl ?_
  refine r_new (TX := TX10) hg zc10 zg_317 zg_141 zg_10 dX11_init_30 (fun S13 M14 r15 => ?_)
  refine aj_dup dX11_init_33 rfl ?_
  refine rC (as := []) hg (c_X10_init w hz hg _ _ _) mc_X10_init rfl (Or.inr ⟨_, zn_318⟩) (by decide) (Nat.le_of_ble_eq_true rfl) dX11_init_34 (fun S16 M17 => ?_)
  refine r_putR (TX := TX11) zc11 (by decide) rfl (Or.inl rfl) (Or.inl zg_563) dX11_init_37 (fun M18 => ?_)
  refine aj_aload_n (0) dX11_init_40 rfl rfl ?_
  refine r_new (TX := TX10) hg zc10 zg_317 zg_141 zg_10 dX11_init_41 (fun S19 M20 r21 => ?_)
  refine aj_dup dX11_init_44 rfl ?_
  refine rC (as := []) hg (c_X10_init w hz hg _ _ _) mc_X10_init rfl (Or.inr ⟨_, zn_318⟩) (by decide) (Nat.le_of_ble_eq_true rfl) dX11_init_45 (fun S22 M23 => ?_)
  refine r_putR (TX := TX11) zc11 (by decide) rfl (Or.inl rfl) (Or.inl zg_564) dX11_init_48 (fun M24 => ?_)
  refine aj_aload_n (0) dX11_init_51 rfl rfl ?_
  refine r_new (TX := TX7) hg zc7 zg_319 zg_320 zg_12 dX11_init_52 (fun S25 M26 r27 => ?_)
  refine aj_dup dX11_init_55 rfl ?_
  refine rC (as := []) hg (c_X7_init w hz hg _ _ _) mc_X7_init rfl (Or.inr ⟨_, zn_321⟩) (by decide) (Nat.le_of_ble_eq_true rfl) dX11_init_56 (fun S28 M29 => ?_)
  refine r_putR (TX := TX11) zc11 (by decide) rfl (Or.inr ⟨rfl, rfl, rfl, zg_565⟩) (Or.inl zg_565) dX11_init_59 (fun M30 => ?_)
  refine aj_aload_n (0) dX11_init_62 rfl rfl ?_
  refine r_new (TX := TX7) hg zc7 zg_319 zg_320 zg_12 dX11_init_63 (fun S31 M32 r33 => ?_)
  refine aj_dup dX11_init_66 rfl ?_
  refine rC (as := []) hg (c_X7_init w hz hg _ _ _) mc_X7_init rfl (Or.inr ⟨_, zn_321⟩) (by decide) (Nat.le_of_ble_eq_true rfl) dX11_init_67 (fun S34 M35 => ?_)
  refine r_putR (TX := TX11) zc11 (by decide) rfl (Or.inr ⟨rfl, rfl, rfl, zg_566⟩) (Or.inl zg_566) dX11_init_70 (fun M36 => ?_)
  refine aj_aload_n (0) dX11_init_73 rfl rfl ?_
  refine r_new (TX := TX7) hg zc7 zg_319 zg_320 zg_12 dX11_init_74 (fun S37 M38 r39 => ?_)
  refine aj_dup dX11_init_77 rfl ?_
  refine rC (as := []) hg (c_X7_init w hz hg _ _ _) mc_X7_init rfl (Or.inr ⟨_, zn_321⟩) (by decide) (Nat.le_of_ble_eq_true rfl) dX11_init_78 (fun S40 M41 => ?_)
  refine r_putR (TX := TX11) zc11 (by decide) rfl (Or.inr ⟨rfl, rfl, rfl, zg_567⟩) (Or.inl zg_567) dX11_init_81 (fun M42 => ?_)
  refine aj_aload_n (0) dX11_init_84 rfl rfl ?_
  refine r_new (TX := TX0) hg zc0 zg_407 zg_408 zg_13 dX11_init_85 (fun S43 M44 r45 => ?_)
  refine aj_dup dX11_init_88 rfl ?_
  refine rC (as := []) hg (c_X0_init w hz hg _ _ _) mc_X0_init rfl (Or.inr ⟨_, zn_409⟩) (by decide) (Nat.le_of_ble_eq_true rfl) dX11_init_89 (fun S46 M47 => ?_)
  refine r_putR (TX := TX11) zc11 (by decide) rfl (Or.inr ⟨rfl, rfl, rfl, zg_569⟩) (Or.inl zg_569) dX11_init_92 (fun M48 => ?_)
  refine aj_aload_n (0) dX11_init_95 rfl rfl ?_
  refine r_new (TX := TX2) hg zc2 zg_438 zg_439 zg_14 dX11_init_96 (fun S49 M50 r51 => ?_)
  refine aj_dup dX11_init_99 rfl ?_
  refine rC (as := []) hg (c_X2_init w hz hg _ _ _) mc_X2_init rfl (Or.inr ⟨_, zn_440⟩) (by decide) (Nat.le_of_ble_eq_true rfl) dX11_init_100 (fun S52 M53 => ?_)
  refine r_putR (TX := TX11) zc11 (by decide) rfl (Or.inr ⟨rfl, rfl, rfl, zg_570⟩) (Or.inl zg_570) dX11_init_103 (fun M54 => ?_)
  refine aj_aload_n (0) dX11_init_106 rfl rfl ?_
  refine r_new (TX := TX8) hg zc8 zg_481 zg_482 zg_15 dX11_init_107 (fun S55 M56 r57 => ?_)
  refine aj_dup dX11_init_110 rfl ?_
  refine rC (as := []) hg (c_X8_init w hz hg _ _ _) mc_X8_init rfl (Or.inr ⟨_, zn_483⟩) (by decide) (Nat.le_of_ble_eq_true rfl) dX11_init_111 (fun S58 M59 => ?_)
  refine r_putR (TX := TX11) zc11 (by decide) rfl (Or.inr ⟨rfl, rfl, rfl, zg_571⟩) (Or.inl zg_571) dX11_init_114 (fun M60 => ?_)
  refine aj_aload_n (0) dX11_init_117 rfl rfl ?_
  refine r_new (TX := TX6) hg zc6 zg_497 zg_498 zg_16 dX11_init_118 (fun S61 M62 r63 => ?_)
  refine aj_dup dX11_init_121 rfl ?_
  refine rC (as := []) hg (c_X6_init w hz hg _ _ _) mc_X6_init rfl (Or.inr ⟨_, zn_499⟩) (by decide) (Nat.le_of_ble_eq_true rfl) dX11_init_122 (fun S64 M65 => ?_)
  refine r_putR (TX := TX11) zc11 (by decide) rfl (Or.inr ⟨rfl, rfl, rfl, zg_572⟩) (Or.inl zg_572) dX11_init_125 (fun M66 => ?_)
  refine aj_aload_n (0) dX11_init_128 rfl rfl ?_
  refine r_new (TX := TX4) hg zc4 zg_516 zg_517 zg_17 dX11_init_129 (fun S67 M68 r69 => ?_)
  refine aj_dup dX11_init_132 rfl ?_
  refine rC (as := []) hg (c_X4_init w hz hg _ _ _) mc_X4_init rfl (Or.inl zg_518) (by decide) (Nat.le_of_ble_eq_true rfl) dX11_init_133 (fun S70 M71 => ?_)
  refine r_putR (TX := TX11) zc11 (by decide) rfl (Or.inr ⟨rfl, rfl, rfl, zg_573⟩) (Or.inl zg_573) dX11_init_136 (fun M72 => ?_)
  exact aj_vret dX11_init_139 rfl rfl
def gX11_tapeNumber_3 (S : List (Nat × Nat)) : Nat → Nat → Int32 → Int32 → zM → Option zM
  | 0 => fun _ _ _ _ => none
  | n + 1 => fun p0 x1 x2 M => (if x2 < 0 then some M else zgR S M (p0) 11 14 0 (fun r1 => zgI S M (p0) 11 14 1 (fun v2 => zrc S (r1) 5 1 ((gX5_set S (r1) (v2) (((x1 >>> (x2 &&& 31)) &&& (255 : Int32))) M).bind (fun M3 => zgI S M3 (p0) 11 14 1 (fun v4 => zpI S M3 (p0) 11 14 1 ((v4 + (1 : Int32))) (fun M5 => (gX11_tapeNumber_3 S   n) (p0) (x1) ((x2 + (-8 : Int32))) M5)))))))
set_option maxHeartbeats 4000000 in
set_option maxRecDepth 100000 in
theorem t_X11_tapeNumber_3 (w : zWd) (S : List (Nat × Nat)) (fu : Nat) : ∀ (p0 : Nat) (x1 : Int32) (x2 : Int32) (M : zM), AJ (zfVM S) w 2 mX11_tapeNumber 3 [(0, .ref (p0)), (1, .int (x1)), (2, .int (x2))] [] (S, M) (gX11_tapeNumber_3 S fu p0 x1 x2 M) := by
  induction fu with
  | zero => intro p0 x1 x2 M; exact AJ.none
  | succ n ih =>
    intro p0 x1 x2 M
    unfold gX11_tapeNumber_3
    refine aj_iload_n (2) dX11_tapeNumber_3 rfl rfl ?_
    refine aj_if_lt (tgt := 41) dX11_tapeNumber_4 (by decide) (fun h => ?_) (fun h => ?_)
    · exact aj_vret dX11_tapeNumber_41 rfl rfl
    refine aj_aload_n (0) dX11_tapeNumber_7 rfl rfl ?_
    refine aj_getR (TX := TX11) zc11 (by decide) rfl (Or.inl zg_560) dX11_tapeNumber_8 (fun r1 => ?_)
    refine aj_aload_n (0) dX11_tapeNumber_11 rfl rfl ?_
    refine r_getI (TX := TX11) zc11 (by decide) rfl (Or.inl zg_561) dX11_tapeNumber_12 (fun v2 => ?_)
    refine aj_iload_n (1) dX11_tapeNumber_15 rfl rfl ?_
    refine aj_iload_n (2) dX11_tapeNumber_16 rfl rfl ?_
    refine aj_ishr dX11_tapeNumber_17 ?_
    refine aj_sipush (v := (255 : Int32)) dX11_tapeNumber_18 (by decide) ?_
    refine aj_iand dX11_tapeNumber_21 ?_
    refine rV_VM (as := [.int (v2), .int (((x1 >>> (x2 &&& 31)) &&& (255 : Int32)))]) (c_X5_set w S _ _ _ _) mv_X5_set rfl zg_611 (by decide) (Nat.le_of_ble_eq_true rfl) dX11_tapeNumber_22 (fun M3 => ?_)
    refine aj_aload_n (0) dX11_tapeNumber_25 rfl rfl ?_
    refine aj_dup dX11_tapeNumber_26 rfl ?_
    refine r_getI (TX := TX11) zc11 (by decide) rfl (Or.inl zg_561) dX11_tapeNumber_27 (fun v4 => ?_)
    refine aj_iconst (v := (1 : Int32)) dX11_tapeNumber_30 (by decide) ?_
    refine aj_iadd dX11_tapeNumber_31 ?_
    refine r_putI (TX := TX11) zc11 (by decide) rfl rfl rfl rfl (Or.inl zg_561) dX11_tapeNumber_32 (fun M5 => ?_)
    refine aj_iinc (j := 2) (v := (x2 + (-8 : Int32))) (ls2 := [(2, .int ((x2 + (-8 : Int32)))), (0, .ref (p0)), (1, .int (x1))]) dX11_tapeNumber_35 rfl rfl (Nat.le_of_ble_eq_true rfl) rfl ?_
    refine aj_goto (tgt := 3) dX11_tapeNumber_38 (by decide) ?_
    refine AJ.sub [1, 2, 0] rfl ?_
    exact ih (p0) (x1) ((x2 + (-8 : Int32))) M5
def gX11_tapeNumber (S : List (Nat × Nat)) (p0 : Nat) (x1 : Int32) (M : zM) : Option zM := gX11_tapeNumber_3 S zfu (p0) (x1) ((24 : Int32)) M
set_option maxHeartbeats 4000000 in
set_option maxRecDepth 100000 in
theorem c_X11_tapeNumber (w : zWd) (S : List (Nat × Nat)) (p0 : Nat) (x1 : Int32) (M : zM) : CT (zfVM S) w 2 mX11_tapeNumber [.ref (p0), .int (x1)] (S, M) (gX11_tapeNumber S p0 x1 M) := by
  refine CT.of (by decide) (Nat.le_of_ble_eq_true rfl) ?_
  show AJ _ _ _ _ 0 [(0, .ref (p0)), (1, .int (x1))] [] _ _
  unfold gX11_tapeNumber
  refine aj_bipush (v := (24 : Int32)) dX11_tapeNumber_0 (by decide) ?_
  refine aj_istore_n (ls2 := [(2, .int ((24 : Int32))), (0, .ref (p0)), (1, .int (x1))]) dX11_tapeNumber_2 rfl (Nat.le_of_ble_eq_true rfl) rfl ?_
  refine AJ.sub [1, 2, 0] rfl ?_
  exact t_X11_tapeNumber_3 w S zfu (p0) (x1) ((24 : Int32)) M
def gX11_feed (S : List (Nat × Nat)) (p0 : Nat) (x1 : Int32) (x2 : Int32) (x3 : Int32) (x4 : Int32) (x5 : Int32) (M : zM) : Option (Int32 × zM) := zgI S M (p0) 11 14 1 (fun v1 => (if (v1 + (20 : Int32)) ≤ (700 : Int32) then zrc S (p0) 11 14 ((gX11_tapeNumber S (p0) (x1) M).bind (fun M2 => zrc S (p0) 11 14 ((gX11_tapeNumber S (p0) (x2) M2).bind (fun M3 => zrc S (p0) 11 14 ((gX11_tapeNumber S (p0) (x3) M3).bind (fun M4 => zrc S (p0) 11 14 ((gX11_tapeNumber S (p0) (x4) M4).bind (fun M5 => zrc S (p0) 11 14 ((gX11_tapeNumber S (p0) (x5) M5).bind (fun M6 => zgI S M6 (p0) 11 14 1 (fun v7 => some (v7, M6)))))))))))) else some ((-1 : Int32), M)))
set_option maxHeartbeats 4000000 in
set_option maxRecDepth 100000 in
theorem c_X11_feed (w : zWd) (S : List (Nat × Nat)) (p0 : Nat) (x1 : Int32) (x2 : Int32) (x3 : Int32) (x4 : Int32) (x5 : Int32) (M : zM) : CT (zfIM S) w 3 mX11_feed [.ref (p0), .int (x1), .int (x2), .int (x3), .int (x4), .int (x5)] (S, M) (gX11_feed S p0 x1 x2 x3 x4 x5 M) := by
  refine CT.of (by decide) (Nat.le_of_ble_eq_true rfl) ?_
  show AJ _ _ _ _ 0 [(0, .ref (p0)), (1, .int (x1)), (2, .int (x2)), (3, .int (x3)), (4, .int (x4)), (5, .int (x5))] [] _ _
  unfold gX11_feed
  refine aj_aload_n (0) dX11_feed_0 rfl rfl ?_
  refine r_getI (TX := TX11) zc11 (by decide) rfl (Or.inl zg_561) dX11_feed_1 (fun v1 => ?_)
  refine aj_bipush (v := (20 : Int32)) dX11_feed_4 (by decide) ?_
  refine aj_iadd dX11_feed_6 ?_
  refine aj_sipush (v := (700 : Int32)) dX11_feed_7 (by decide) ?_
  refine aj_icmp_le (tgt := 15) dX11_feed_10 (by decide) (fun h => ?_) (fun h => ?_)
  · refine aj_aload_n (0) dX11_feed_15 rfl rfl ?_
    refine aj_iload_n (1) dX11_feed_16 rfl rfl ?_
    refine rV_VM (as := [.int (x1)]) (c_X11_tapeNumber w S _ _ _) mv_X11_tapeNumber rfl zg_607 (by decide) (Nat.le_of_ble_eq_true rfl) dX11_feed_17 (fun M2 => ?_)
    refine aj_aload_n (0) dX11_feed_20 rfl rfl ?_
    refine aj_iload_n (2) dX11_feed_21 rfl rfl ?_
    refine rV_VM (as := [.int (x2)]) (c_X11_tapeNumber w S _ _ _) mv_X11_tapeNumber rfl zg_607 (by decide) (Nat.le_of_ble_eq_true rfl) dX11_feed_22 (fun M3 => ?_)
    refine aj_aload_n (0) dX11_feed_25 rfl rfl ?_
    refine aj_iload_n (3) dX11_feed_26 rfl rfl ?_
    refine rV_VM (as := [.int (x3)]) (c_X11_tapeNumber w S _ _ _) mv_X11_tapeNumber rfl zg_607 (by decide) (Nat.le_of_ble_eq_true rfl) dX11_feed_27 (fun M4 => ?_)
    refine aj_aload_n (0) dX11_feed_30 rfl rfl ?_
    refine aj_iload (4) dX11_feed_31 rfl ?_
    refine rV_VM (as := [.int (x4)]) (c_X11_tapeNumber w S _ _ _) mv_X11_tapeNumber rfl zg_607 (by decide) (Nat.le_of_ble_eq_true rfl) dX11_feed_33 (fun M5 => ?_)
    refine aj_aload_n (0) dX11_feed_36 rfl rfl ?_
    refine aj_iload (5) dX11_feed_37 rfl ?_
    refine rV_VM (as := [.int (x5)]) (c_X11_tapeNumber w S _ _ _) mv_X11_tapeNumber rfl zg_607 (by decide) (Nat.le_of_ble_eq_true rfl) dX11_feed_39 (fun M6 => ?_)
    refine aj_aload_n (0) dX11_feed_42 rfl rfl ?_
    refine r_getI (TX := TX11) zc11 (by decide) rfl (Or.inl zg_561) dX11_feed_43 (fun v7 => ?_)
    exact aj_iret dX11_feed_46 rfl rfl rfl
  refine aj_iconst (v := (-1 : Int32)) dX11_feed_13 (by decide) ?_
  exact aj_iret dX11_feed_14 rfl rfl rfl
def gX11_text (S : List (Nat × Nat)) (p0 : Nat) (x1 : Int32) (M : zM) : Option (Int32 × zM) := (if x1 < 0 then some ((-2 : Int32), M) else zgI S M (p0) 11 14 1 (fun v1 => (if x1 ≤ v1 then zpI S M (p0) 11 14 1 ((0 : Int32)) (fun M2 => zgR S M2 (p0) 11 14 2 (fun r3 => zgR S M2 (p0) 11 14 0 (fun r4 => zgR S M2 (p0) 11 14 4 (fun r5 => zrc S (r3) 3 10 (zb2 (gX3_reads S (r3) (r4) (x1) (r5) M2) (fun v6 M7 => (if v6 = 0 then some ((-1 : Int32), M7) else zgR S M7 (p0) 11 14 3 (fun r8 => zgR S M7 (p0) 11 14 4 (fun r9 => zpR S M7 (p0) 11 14 3 (some (r9)) (fun M10 => zpR S M10 (p0) 11 14 4 (some (r8)) (fun M11 => zgR S M11 (p0) 11 14 5 (fun r12 => zgR S M11 (p0) 11 14 3 (fun r13 => zrc S (r12) 7 15 ((gX7_starts S (r12) (r13) M11).bind (fun M14 => zgR S M14 (p0) 11 14 10 (fun r15 => zrc S (r15) 2 10 ((gX2_clear S (r15) M14).bind (fun M16 => zgR S M16 (p0) 11 14 11 (fun r17 => zrc S (r17) 8 2 ((gX8_clear S (r17) M16).bind (fun M18 => zpI S M18 (p0) 11 14 8 ((0 : Int32)) (fun M19 => zgR S M19 (p0) 11 14 3 (fun r20 => zgI S M19 (r20) 10 18 0 (fun v21 => some (v21, M19))))))))))))))))))))))))) else some ((-2 : Int32), M))))
set_option maxHeartbeats 4000000 in
set_option maxRecDepth 100000 in
theorem c_X11_text (w : zWd) (S : List (Nat × Nat)) (p0 : Nat) (x1 : Int32) (M : zM) : CT (zfIM S) w 8 mX11_text [.ref (p0), .int (x1)] (S, M) (gX11_text S p0 x1 M) := by
  refine CT.of (by decide) (Nat.le_of_ble_eq_true rfl) ?_
  show AJ _ _ _ _ 0 [(0, .ref (p0)), (1, .int (x1))] [] _ _
  unfold gX11_text
  refine aj_iload_n (1) dX11_text_0 rfl rfl ?_
  refine aj_if_lt (tgt := 12) dX11_text_1 (by decide) (fun h => ?_) (fun h => ?_)
  · refine aj_bipush (v := (-2 : Int32)) dX11_text_12 (by decide) ?_
    exact aj_iret dX11_text_14 rfl rfl rfl
  refine aj_iload_n (1) dX11_text_4 rfl rfl ?_
  refine aj_aload_n (0) dX11_text_5 rfl rfl ?_
  refine r_getI (TX := TX11) zc11 (by decide) rfl (Or.inl zg_561) dX11_text_6 (fun v1 => ?_)
  refine aj_icmp_le (tgt := 15) dX11_text_9 (by decide) (fun h => ?_) (fun h => ?_)
  · refine aj_aload_n (0) dX11_text_15 rfl rfl ?_
    refine aj_iconst (v := (0 : Int32)) dX11_text_16 (by decide) ?_
    refine r_putI (TX := TX11) zc11 (by decide) rfl rfl rfl rfl (Or.inl zg_561) dX11_text_17 (fun M2 => ?_)
    refine aj_aload_n (0) dX11_text_20 rfl rfl ?_
    refine aj_getR (TX := TX11) zc11 (by decide) rfl (Or.inl zg_562) dX11_text_21 (fun r3 => ?_)
    refine aj_aload_n (0) dX11_text_24 rfl rfl ?_
    refine aj_getR (TX := TX11) zc11 (by decide) rfl (Or.inl zg_560) dX11_text_25 (fun r4 => ?_)
    refine aj_iload_n (1) dX11_text_28 rfl rfl ?_
    refine aj_aload_n (0) dX11_text_29 rfl rfl ?_
    refine aj_getR (TX := TX11) zc11 (by decide) rfl (Or.inl zg_564) dX11_text_30 (fun r5 => ?_)
    refine rV_IM (as := [.ref (r4), .int (x1), .ref (r5)]) (c_X3_reads w S _ _ _ _ _) mv_X3_reads rfl zg_616 (by decide) (Nat.le_of_ble_eq_true rfl) dX11_text_33 (fun v6 M7 => ?_)
    refine aj_if_ne (tgt := 41) dX11_text_36 (by decide) (fun h => ?_) (fun h => ?_)
    · refine aj_aload_n (0) dX11_text_41 rfl rfl ?_
      refine aj_getR (TX := TX11) zc11 (by decide) rfl (Or.inl zg_563) dX11_text_42 (fun r8 => ?_)
      refine aj_astore_n (ls2 := [(2, .ref (r8)), (0, .ref (p0)), (1, .int (x1))]) dX11_text_45 rfl (Nat.le_of_ble_eq_true rfl) rfl ?_
      refine aj_aload_n (1) dX11_text_46 rfl rfl ?_
      refine aj_aload_n (1) dX11_text_47 rfl rfl ?_
      refine aj_getR (TX := TX11) zc11 (by decide) rfl (Or.inl zg_564) dX11_text_48 (fun r9 => ?_)
      refine r_putR (TX := TX11) zc11 (by decide) rfl (Or.inl rfl) (Or.inl zg_563) dX11_text_51 (fun M10 => ?_)
      refine aj_aload_n (1) dX11_text_54 rfl rfl ?_
      refine aj_aload_n (0) dX11_text_55 rfl rfl ?_
      refine r_putR (TX := TX11) zc11 (by decide) rfl (Or.inl rfl) (Or.inl zg_564) dX11_text_56 (fun M11 => ?_)
      refine aj_aload_n (1) dX11_text_59 rfl rfl ?_
      refine aj_getR (TX := TX11) zc11 (by decide) rfl (Or.inl zg_565) dX11_text_60 (fun r12 => ?_)
      refine aj_aload_n (1) dX11_text_63 rfl rfl ?_
      refine aj_getR (TX := TX11) zc11 (by decide) rfl (Or.inl zg_563) dX11_text_64 (fun r13 => ?_)
      refine rV_VM (as := [.ref (r13)]) (c_X7_starts w S _ _ _) mv_X7_starts rfl zg_794 (by decide) (Nat.le_of_ble_eq_true rfl) dX11_text_67 (fun M14 => ?_)
      refine aj_aload_n (1) dX11_text_70 rfl rfl ?_
      refine aj_getR (TX := TX11) zc11 (by decide) rfl (Or.inl zg_570) dX11_text_71 (fun r15 => ?_)
      refine rV_VM (as := []) (c_X2_clear w S _ _) mv_X2_clear rfl zg_807 (by decide) (Nat.le_of_ble_eq_true rfl) dX11_text_74 (fun M16 => ?_)
      refine aj_aload_n (1) dX11_text_77 rfl rfl ?_
      refine aj_getR (TX := TX11) zc11 (by decide) rfl (Or.inl zg_571) dX11_text_78 (fun r17 => ?_)
      refine rV_VM (as := []) (c_X8_clear w S _ _) mv_X8_clear rfl zg_811 (by decide) (Nat.le_of_ble_eq_true rfl) dX11_text_81 (fun M18 => ?_)
      refine aj_aload_n (1) dX11_text_84 rfl rfl ?_
      refine aj_iconst (v := (0 : Int32)) dX11_text_85 (by decide) ?_
      refine r_putI (TX := TX11) zc11 (by decide) rfl rfl (by decide +kernel) rfl (Or.inl zg_568) dX11_text_86 (fun M19 => ?_)
      refine aj_aload_n (1) dX11_text_89 rfl rfl ?_
      refine aj_getR (TX := TX11) zc11 (by decide) rfl (Or.inl zg_563) dX11_text_90 (fun r20 => ?_)
      refine r_getI (TX := TX10) zc10 (by decide) rfl (Or.inr ⟨_, zn_182⟩) dX11_text_93 (fun v21 => ?_)
      exact aj_iret dX11_text_96 rfl rfl rfl
    refine aj_iconst (v := (-1 : Int32)) dX11_text_39 (by decide) ?_
    exact aj_iret dX11_text_40 rfl rfl rfl
  refine aj_bipush (v := (-2 : Int32)) dX11_text_12 (by decide) ?_
  exact aj_iret dX11_text_14 rfl rfl rfl
def gX11_fault (S : List (Nat × Nat)) (p0 : Nat) (x1 : Int32) (M : zM) : Option Int32 := (if x1 = 0 then zgR S M (p0) 11 14 2 (fun r5 => zgI S M (r5) 3 10 2 (fun v6 => some (v6))) else (if x1 = (1 : Int32) then zgR S M (p0) 11 14 2 (fun r1 => zgI S M (r1) 3 10 2 (fun v2 => (if v2 = 0 then some ((-1 : Int32)) else zgR S M (p0) 11 14 2 (fun r3 => zgI S M (r3) 3 10 3 (fun v4 => some (v4)))))) else some ((-1 : Int32))))
set_option maxHeartbeats 4000000 in
set_option maxRecDepth 100000 in
theorem c_X11_fault (w : zWd) (S : List (Nat × Nat)) (p0 : Nat) (x1 : Int32) (M : zM) : CT (zfI S M) w 1 mX11_fault [.ref (p0), .int (x1)] (S, M) (gX11_fault S p0 x1 M) := by
  refine CT.of (by decide) (Nat.le_of_ble_eq_true rfl) ?_
  show AJ _ _ _ _ 0 [(0, .ref (p0)), (1, .int (x1))] [] _ _
  unfold gX11_fault
  refine aj_iload_n (1) dX11_fault_0 rfl rfl ?_
  refine aj_if_ne (tgt := 12) dX11_fault_1 (by decide) (fun h => ?_) (fun h => ?_)
  · refine aj_iload_n (1) dX11_fault_12 rfl rfl ?_
    refine aj_iconst (v := (1 : Int32)) dX11_fault_13 (by decide) ?_
    refine aj_icmp_ne (tgt := 37) dX11_fault_14 (by decide) (fun h => ?_) (fun h => ?_)
    · refine aj_iconst (v := (-1 : Int32)) dX11_fault_37 (by decide) ?_
      exact aj_iret dX11_fault_38 rfl rfl rfl
    refine aj_aload_n (0) dX11_fault_17 rfl rfl ?_
    refine aj_getR (TX := TX11) zc11 (by decide) rfl (Or.inl zg_562) dX11_fault_18 (fun r1 => ?_)
    refine r_getI (TX := TX3) zc3 (by decide) rfl (Or.inr ⟨_, zn_287⟩) dX11_fault_21 (fun v2 => ?_)
    refine aj_if_eq (tgt := 37) dX11_fault_24 (by decide) (fun h => ?_) (fun h => ?_)
    · refine aj_iconst (v := (-1 : Int32)) dX11_fault_37 (by decide) ?_
      exact aj_iret dX11_fault_38 rfl rfl rfl
    refine aj_aload_n (0) dX11_fault_27 rfl rfl ?_
    refine aj_getR (TX := TX11) zc11 (by decide) rfl (Or.inl zg_562) dX11_fault_28 (fun r3 => ?_)
    refine r_getI (TX := TX3) zc3 (by decide) rfl (Or.inr ⟨_, zn_289⟩) dX11_fault_31 (fun v4 => ?_)
    refine aj_goto (tgt := 38) dX11_fault_34 (by decide) ?_
    exact aj_iret dX11_fault_38 rfl rfl rfl
  refine aj_aload_n (0) dX11_fault_4 rfl rfl ?_
  refine aj_getR (TX := TX11) zc11 (by decide) rfl (Or.inl zg_562) dX11_fault_5 (fun r5 => ?_)
  refine r_getI (TX := TX3) zc3 (by decide) rfl (Or.inr ⟨_, zn_287⟩) dX11_fault_8 (fun v6 => ?_)
  exact aj_iret dX11_fault_11 rfl rfl rfl
def gX11_named (S : List (Nat × Nat)) (p0 : Nat) (x1 : Int32) (x2 : Int32) (M : zM) : Option Int32 := (if x1 = 0 then zgR S M (p0) 11 14 3 (fun r3 => zrc S (r3) 10 18 ((gX10_tradeNamed S (r3) (x2) M).bind (fun v4 => some (v4)))) else (if x1 = (1 : Int32) then zgR S M (p0) 11 14 3 (fun r1 => zrc S (r1) 10 18 ((gX10_workNamed S (r1) (x2) M).bind (fun v2 => some (v2)))) else some ((-1 : Int32))))
set_option maxHeartbeats 4000000 in
set_option maxRecDepth 100000 in
theorem c_X11_named (w : zWd) (S : List (Nat × Nat)) (p0 : Nat) (x1 : Int32) (x2 : Int32) (M : zM) : CT (zfI S M) w 4 mX11_named [.ref (p0), .int (x1), .int (x2)] (S, M) (gX11_named S p0 x1 x2 M) := by
  refine CT.of (by decide) (Nat.le_of_ble_eq_true rfl) ?_
  show AJ _ _ _ _ 0 [(0, .ref (p0)), (1, .int (x1)), (2, .int (x2))] [] _ _
  unfold gX11_named
  refine aj_iload_n (1) dX11_named_0 rfl rfl ?_
  refine aj_if_ne (tgt := 13) dX11_named_1 (by decide) (fun h => ?_) (fun h => ?_)
  · refine aj_iload_n (1) dX11_named_13 rfl rfl ?_
    refine aj_iconst (v := (1 : Int32)) dX11_named_14 (by decide) ?_
    refine aj_icmp_ne (tgt := 29) dX11_named_15 (by decide) (fun h => ?_) (fun h => ?_)
    · refine aj_iconst (v := (-1 : Int32)) dX11_named_29 (by decide) ?_
      exact aj_iret dX11_named_30 rfl rfl rfl
    refine aj_aload_n (0) dX11_named_18 rfl rfl ?_
    refine aj_getR (TX := TX11) zc11 (by decide) rfl (Or.inl zg_563) dX11_named_19 (fun r1 => ?_)
    refine aj_iload_n (2) dX11_named_22 rfl rfl ?_
    refine rV_I (as := [.int (x2)]) (c_X10_workNamed w S _ _ _) mv_X10_workNamed rfl zg_824 (by decide) (Nat.le_of_ble_eq_true rfl) dX11_named_23 (fun v2 => ?_)
    refine aj_goto (tgt := 30) dX11_named_26 (by decide) ?_
    exact aj_iret dX11_named_30 rfl rfl rfl
  refine aj_aload_n (0) dX11_named_4 rfl rfl ?_
  refine aj_getR (TX := TX11) zc11 (by decide) rfl (Or.inl zg_563) dX11_named_5 (fun r3 => ?_)
  refine aj_iload_n (2) dX11_named_8 rfl rfl ?_
  refine rV_I (as := [.int (x2)]) (c_X10_tradeNamed w S _ _ _) mv_X10_tradeNamed rfl zg_823 (by decide) (Nat.le_of_ble_eq_true rfl) dX11_named_9 (fun v4 => ?_)
  exact aj_iret dX11_named_12 rfl rfl rfl
def gX11_place (S : List (Nat × Nat)) (p0 : Nat) (x1 : Int32) (M : zM) : Option Int32 := zgR S M (p0) 11 14 5 (fun r1 => zrc S (r1) 7 15 ((gX7_hasPlace S (r1) (x1) M).bind (fun v2 => (if v2 = 0 then some ((-1 : Int32)) else zgR S M (p0) 11 14 5 (fun r3 => zgR S M (r3) 7 15 11 (fun r4 => zrc S (r4) 5 1 ((gX5_get S (r4) (x1) M).bind (fun v5 => some (v5)))))))))
set_option maxHeartbeats 4000000 in
set_option maxRecDepth 100000 in
theorem c_X11_place (w : zWd) (S : List (Nat × Nat)) (p0 : Nat) (x1 : Int32) (M : zM) : CT (zfI S M) w 2 mX11_place [.ref (p0), .int (x1)] (S, M) (gX11_place S p0 x1 M) := by
  refine CT.of (by decide) (Nat.le_of_ble_eq_true rfl) ?_
  show AJ _ _ _ _ 0 [(0, .ref (p0)), (1, .int (x1))] [] _ _
  unfold gX11_place
  refine aj_aload_n (0) dX11_place_0 rfl rfl ?_
  refine aj_getR (TX := TX11) zc11 (by decide) rfl (Or.inl zg_565) dX11_place_1 (fun r1 => ?_)
  refine aj_iload_n (1) dX11_place_4 rfl rfl ?_
  refine rV_I (as := [.int (x1)]) (c_X7_hasPlace w S _ _ _) mv_X7_hasPlace rfl zg_829 (by decide) (Nat.le_of_ble_eq_true rfl) dX11_place_5 (fun v2 => ?_)
  refine aj_if_eq (tgt := 25) dX11_place_8 (by decide) (fun h => ?_) (fun h => ?_)
  · refine aj_iconst (v := (-1 : Int32)) dX11_place_25 (by decide) ?_
    exact aj_iret dX11_place_26 rfl rfl rfl
  refine aj_aload_n (0) dX11_place_11 rfl rfl ?_
  refine aj_getR (TX := TX11) zc11 (by decide) rfl (Or.inl zg_565) dX11_place_12 (fun r3 => ?_)
  refine aj_getR (TX := TX7) zc7 (by decide) rfl (Or.inr ⟨_, zn_366⟩) dX11_place_15 (fun r4 => ?_)
  refine aj_iload_n (1) dX11_place_18 rfl rfl ?_
  refine rV_I (as := [.int (x1)]) (c_X5_get w S _ _ _) mv_X5_get rfl zg_833 (by decide) (Nat.le_of_ble_eq_true rfl) dX11_place_19 (fun v5 => ?_)
  refine aj_goto (tgt := 26) dX11_place_22 (by decide) ?_
  exact aj_iret dX11_place_26 rfl rfl rfl
def gX11_work (S : List (Nat × Nat)) (p0 : Nat) (x1 : Int32) (x2 : Int32) (M : zM) : Option Int32 := zgR S M (p0) 11 14 3 (fun r1 => zrc S (r1) 10 18 ((gX10_hasWork S (r1) (x1) M).bind (fun v2 => (if v2 = 0 then some ((-1 : Int32)) else (if x2 = (0 : Int32) then zgR S M (p0) 11 14 3 (fun r4 => zgR S M (r4) 10 18 12 (fun r5 => zrc S (r5) 5 1 ((gX5_get S (r5) (x1) M).bind (fun v6 => some (v6))))) else (if x2 = (1 : Int32) then zgR S M (p0) 11 14 3 (fun r8 => zgR S M (r8) 10 18 13 (fun r9 => zrc S (r9) 5 1 ((gX5_get S (r9) (x1) M).bind (fun v10 => some (v10))))) else (if x2 = (2 : Int32) then zgR S M (p0) 11 14 3 (fun r12 => zgR S M (r12) 10 18 14 (fun r13 => zrc S (r13) 5 1 ((gX5_get S (r13) (x1) M).bind (fun v14 => some (v14))))) else (if x2 = (3 : Int32) then zgR S M (p0) 11 14 5 (fun r16 => zgR S M (r16) 7 15 14 (fun r17 => zrc S (r17) 5 1 ((gX5_get S (r17) (x1) M).bind (fun v18 => some (v18))))) else some ((-1 : Int32))))))))))
set_option maxHeartbeats 4000000 in
set_option maxRecDepth 100000 in
theorem c_X11_work (w : zWd) (S : List (Nat × Nat)) (p0 : Nat) (x1 : Int32) (x2 : Int32) (M : zM) : CT (zfI S M) w 2 mX11_work [.ref (p0), .int (x1), .int (x2)] (S, M) (gX11_work S p0 x1 x2 M) := by
  refine CT.of (by decide) (Nat.le_of_ble_eq_true rfl) ?_
  show AJ _ _ _ _ 0 [(0, .ref (p0)), (1, .int (x1)), (2, .int (x2))] [] _ _
  unfold gX11_work
  refine aj_aload_n (0) dX11_work_0 rfl rfl ?_
  refine aj_getR (TX := TX11) zc11 (by decide) rfl (Or.inl zg_563) dX11_work_1 (fun r1 => ?_)
  refine aj_iload_n (1) dX11_work_4 rfl rfl ?_
  refine rV_I (as := [.int (x1)]) (c_X10_hasWork w S _ _ _) mv_X10_hasWork rfl zg_838 (by decide) (Nat.le_of_ble_eq_true rfl) dX11_work_5 (fun v2 => ?_)
  refine aj_if_ne (tgt := 13) dX11_work_8 (by decide) (fun h => ?_) (fun h => ?_)
  · refine aj_iload_n (2) dX11_work_13 rfl rfl ?_
    refine aj_ite (fun h => ?_) (fun h3 => ?_)
    · have h9 : x2 = (0 : Int32) := h
      refine aj_tsw (tgt := 44) (off := 30) dX11_work_14 (by rw [h9]; decide) (by rw [h9]; decide) (by rw [h9]; decide +kernel) (by decide) ?_
      refine aj_aload_n (0) dX11_work_44 rfl rfl ?_
      refine aj_getR (TX := TX11) zc11 (by decide) rfl (Or.inl zg_563) dX11_work_45 (fun r4 => ?_)
      refine aj_getR (TX := TX10) zc10 (by decide) rfl (Or.inr ⟨_, zn_222⟩) dX11_work_48 (fun r5 => ?_)
      refine aj_iload_n (1) dX11_work_51 rfl rfl ?_
      refine rV_I (as := [.int (x1)]) (c_X5_get w S _ _ _) mv_X5_get rfl zg_833 (by decide) (Nat.le_of_ble_eq_true rfl) dX11_work_52 (fun v6 => ?_)
      exact aj_iret dX11_work_55 rfl rfl rfl
    refine aj_ite (fun h => ?_) (fun h7 => ?_)
    · have h9 : x2 = (1 : Int32) := h
      refine aj_tsw (tgt := 56) (off := 42) dX11_work_14 (by rw [h9]; decide) (by rw [h9]; decide) (by rw [h9]; decide +kernel) (by decide) ?_
      refine aj_aload_n (0) dX11_work_56 rfl rfl ?_
      refine aj_getR (TX := TX11) zc11 (by decide) rfl (Or.inl zg_563) dX11_work_57 (fun r8 => ?_)
      refine aj_getR (TX := TX10) zc10 (by decide) rfl (Or.inr ⟨_, zn_227⟩) dX11_work_60 (fun r9 => ?_)
      refine aj_iload_n (1) dX11_work_63 rfl rfl ?_
      refine rV_I (as := [.int (x1)]) (c_X5_get w S _ _ _) mv_X5_get rfl zg_833 (by decide) (Nat.le_of_ble_eq_true rfl) dX11_work_64 (fun v10 => ?_)
      exact aj_iret dX11_work_67 rfl rfl rfl
    refine aj_ite (fun h => ?_) (fun h11 => ?_)
    · have h9 : x2 = (2 : Int32) := h
      refine aj_tsw (tgt := 68) (off := 54) dX11_work_14 (by rw [h9]; decide) (by rw [h9]; decide) (by rw [h9]; decide +kernel) (by decide) ?_
      refine aj_aload_n (0) dX11_work_68 rfl rfl ?_
      refine aj_getR (TX := TX11) zc11 (by decide) rfl (Or.inl zg_563) dX11_work_69 (fun r12 => ?_)
      refine aj_getR (TX := TX10) zc10 (by decide) rfl (Or.inr ⟨_, zn_232⟩) dX11_work_72 (fun r13 => ?_)
      refine aj_iload_n (1) dX11_work_75 rfl rfl ?_
      refine rV_I (as := [.int (x1)]) (c_X5_get w S _ _ _) mv_X5_get rfl zg_833 (by decide) (Nat.le_of_ble_eq_true rfl) dX11_work_76 (fun v14 => ?_)
      exact aj_iret dX11_work_79 rfl rfl rfl
    refine aj_ite (fun h => ?_) (fun h15 => ?_)
    · have h9 : x2 = (3 : Int32) := h
      refine aj_tsw (tgt := 80) (off := 66) dX11_work_14 (by rw [h9]; decide) (by rw [h9]; decide) (by rw [h9]; decide +kernel) (by decide) ?_
      refine aj_aload_n (0) dX11_work_80 rfl rfl ?_
      refine aj_getR (TX := TX11) zc11 (by decide) rfl (Or.inl zg_565) dX11_work_81 (fun r16 => ?_)
      refine aj_getR (TX := TX7) zc7 (by decide) rfl (Or.inr ⟨_, zn_375⟩) dX11_work_84 (fun r17 => ?_)
      refine aj_iload_n (1) dX11_work_87 rfl rfl ?_
      refine rV_I (as := [.int (x1)]) (c_X5_get w S _ _ _) mv_X5_get rfl zg_833 (by decide) (Nat.le_of_ble_eq_true rfl) dX11_work_88 (fun v18 => ?_)
      exact aj_iret dX11_work_91 rfl rfl rfl
    refine aj_tswO (tgt := 92) dX11_work_14 (by have a0 := lv_neT (k := (0 : Int32)) h3 (a := 0) (by decide); have a1 := lv_neT (k := (1 : Int32)) h7 (a := 1) (by decide); have a2 := lv_neT (k := (2 : Int32)) h11 (a := 2) (by decide); have a3 := lv_neT (k := (3 : Int32)) h15 (a := 3) (by decide); omega) (by decide) ?_
    refine aj_iconst (v := (-1 : Int32)) dX11_work_92 (by decide) ?_
    exact aj_iret dX11_work_93 rfl rfl rfl
  refine aj_iconst (v := (-1 : Int32)) dX11_work_11 (by decide) ?_
  exact aj_iret dX11_work_12 rfl rfl rfl
def gX11_law (S : List (Nat × Nat)) (p0 : Nat) (x1 : Int32) (x2 : Int32) (M : zM) : Option (Int64 × zM) := (if x1 < 0 then some ((-9223372036854775808 : Int64), M) else (if (3 : Int32) ≤ x1 then some ((-9223372036854775808 : Int64), M) else zgR S M (p0) 11 14 3 (fun r1 => zrc S (r1) 10 18 ((gX10_hasTrade S (r1) (x2) M).bind (fun v2 => (if v2 = 0 then some ((-9223372036854775808 : Int64), M) else zgR S M (p0) 11 14 9 (fun r3 => zgR S M (p0) 11 14 3 (fun r4 => zrc S (r3) 0 6 ((gX0_goesOf S (r3) (r4) M).bind (fun M5 => zgR S M5 (p0) 11 14 9 (fun r6 => zgR S M5 (p0) 11 14 5 (fun r7 => zrc S (r6) 0 6 (zb2 (gX0_worth S (r6) (r7) (x1) (x2) M5) (fun w8 M9 => some (w8, M9)))))))))))))))
set_option maxHeartbeats 4000000 in
set_option maxRecDepth 100000 in
theorem c_X11_law (w : zWd) (S : List (Nat × Nat)) (p0 : Nat) (x1 : Int32) (x2 : Int32) (M : zM) : CT (zfJM S) w 5 mX11_law [.ref (p0), .int (x1), .int (x2)] (S, M) (gX11_law S p0 x1 x2 M) := by
  refine CT.of (by decide) (Nat.le_of_ble_eq_true rfl) ?_
  show AJ _ _ _ _ 0 [(0, .ref (p0)), (1, .int (x1)), (2, .int (x2))] [] _ _
  unfold gX11_law
  refine aj_iload_n (1) dX11_law_0 rfl rfl ?_
  refine aj_if_lt (tgt := 20) dX11_law_1 (by decide) (fun h => ?_) (fun h => ?_)
  · refine aj_ldc2 (v := (-9223372036854775808 : Int64)) dX11_law_20 zg_850 ?_
    exact aj_lret dX11_law_23 rfl rfl
  refine aj_iload_n (1) dX11_law_4 rfl rfl ?_
  refine aj_iconst (v := (3 : Int32)) dX11_law_5 (by decide) ?_
  refine aj_icmp_ge (tgt := 20) dX11_law_6 (by decide) (fun h => ?_) (fun h => ?_)
  · refine aj_ldc2 (v := (-9223372036854775808 : Int64)) dX11_law_20 zg_850 ?_
    exact aj_lret dX11_law_23 rfl rfl
  refine aj_aload_n (0) dX11_law_9 rfl rfl ?_
  refine aj_getR (TX := TX11) zc11 (by decide) rfl (Or.inl zg_563) dX11_law_10 (fun r1 => ?_)
  refine aj_iload_n (2) dX11_law_13 rfl rfl ?_
  refine rV_I (as := [.int (x2)]) (c_X10_hasTrade w S _ _ _) mv_X10_hasTrade rfl zg_846 (by decide) (Nat.le_of_ble_eq_true rfl) dX11_law_14 (fun v2 => ?_)
  refine aj_if_ne (tgt := 24) dX11_law_17 (by decide) (fun h => ?_) (fun h => ?_)
  · refine aj_aload_n (0) dX11_law_24 rfl rfl ?_
    refine aj_getR (TX := TX11) zc11 (by decide) rfl (Or.inl zg_569) dX11_law_25 (fun r3 => ?_)
    refine aj_aload_n (0) dX11_law_28 rfl rfl ?_
    refine aj_getR (TX := TX11) zc11 (by decide) rfl (Or.inl zg_563) dX11_law_29 (fun r4 => ?_)
    refine rV_VM (as := [.ref (r4)]) (c_X0_goesOf w S _ _ _) mv_X0_goesOf rfl zg_851 (by decide) (Nat.le_of_ble_eq_true rfl) dX11_law_32 (fun M5 => ?_)
    refine aj_aload_n (0) dX11_law_35 rfl rfl ?_
    refine aj_getR (TX := TX11) zc11 (by decide) rfl (Or.inl zg_569) dX11_law_36 (fun r6 => ?_)
    refine aj_aload_n (0) dX11_law_39 rfl rfl ?_
    refine aj_getR (TX := TX11) zc11 (by decide) rfl (Or.inl zg_565) dX11_law_40 (fun r7 => ?_)
    refine aj_iload_n (1) dX11_law_43 rfl rfl ?_
    refine aj_iload_n (2) dX11_law_44 rfl rfl ?_
    refine rV_JM (as := [.ref (r7), .int (x1), .int (x2)]) (c_X0_worth w S _ _ _ _ _) mv_X0_worth rfl zg_856 (by decide) (Nat.le_of_ble_eq_true rfl) dX11_law_45 (fun w8 M9 => ?_)
    exact aj_lret dX11_law_48 rfl rfl
  refine aj_ldc2 (v := (-9223372036854775808 : Int64)) dX11_law_20 zg_850 ?_
  exact aj_lret dX11_law_23 rfl rfl
def gX11_length (S : List (Nat × Nat)) (p0 : Nat) (x1 : Int32) (M : zM) : Option (Int32 × zM) := zgR S M (p0) 11 14 3 (fun r1 => zrc S (r1) 10 18 ((gX10_hasTrade S (r1) (x1) M).bind (fun v2 => (if v2 = 0 then some ((-1 : Int32), M) else zgR S M (p0) 11 14 9 (fun r3 => zgR S M (p0) 11 14 3 (fun r4 => zrc S (r3) 0 6 ((gX0_goesOf S (r3) (r4) M).bind (fun M5 => zgR S M5 (p0) 11 14 9 (fun r6 => zgR S M5 (p0) 11 14 5 (fun r7 => zrc S (r6) 0 6 (zb2 (gX0_lengthBy S (r6) (r7) (x1) M5) (fun v8 M9 => some (v8, M9)))))))))))))
set_option maxHeartbeats 4000000 in
set_option maxRecDepth 100000 in
theorem c_X11_length (w : zWd) (S : List (Nat × Nat)) (p0 : Nat) (x1 : Int32) (M : zM) : CT (zfIM S) w 6 mX11_length [.ref (p0), .int (x1)] (S, M) (gX11_length S p0 x1 M) := by
  refine CT.of (by decide) (Nat.le_of_ble_eq_true rfl) ?_
  show AJ _ _ _ _ 0 [(0, .ref (p0)), (1, .int (x1))] [] _ _
  unfold gX11_length
  refine aj_aload_n (0) dX11_length_0 rfl rfl ?_
  refine aj_getR (TX := TX11) zc11 (by decide) rfl (Or.inl zg_563) dX11_length_1 (fun r1 => ?_)
  refine aj_iload_n (1) dX11_length_4 rfl rfl ?_
  refine rV_I (as := [.int (x1)]) (c_X10_hasTrade w S _ _ _) mv_X10_hasTrade rfl zg_846 (by decide) (Nat.le_of_ble_eq_true rfl) dX11_length_5 (fun v2 => ?_)
  refine aj_if_ne (tgt := 13) dX11_length_8 (by decide) (fun h => ?_) (fun h => ?_)
  · refine aj_aload_n (0) dX11_length_13 rfl rfl ?_
    refine aj_getR (TX := TX11) zc11 (by decide) rfl (Or.inl zg_569) dX11_length_14 (fun r3 => ?_)
    refine aj_aload_n (0) dX11_length_17 rfl rfl ?_
    refine aj_getR (TX := TX11) zc11 (by decide) rfl (Or.inl zg_563) dX11_length_18 (fun r4 => ?_)
    refine rV_VM (as := [.ref (r4)]) (c_X0_goesOf w S _ _ _) mv_X0_goesOf rfl zg_851 (by decide) (Nat.le_of_ble_eq_true rfl) dX11_length_21 (fun M5 => ?_)
    refine aj_aload_n (0) dX11_length_24 rfl rfl ?_
    refine aj_getR (TX := TX11) zc11 (by decide) rfl (Or.inl zg_569) dX11_length_25 (fun r6 => ?_)
    refine aj_aload_n (0) dX11_length_28 rfl rfl ?_
    refine aj_getR (TX := TX11) zc11 (by decide) rfl (Or.inl zg_565) dX11_length_29 (fun r7 => ?_)
    refine aj_iload_n (1) dX11_length_32 rfl rfl ?_
    refine rV_IM (as := [.ref (r7), .int (x1)]) (c_X0_lengthBy w S _ _ _ _) mv_X0_lengthBy rfl zg_888 (by decide) (Nat.le_of_ble_eq_true rfl) dX11_length_33 (fun v8 M9 => ?_)
    exact aj_iret dX11_length_36 rfl rfl rfl
  refine aj_iconst (v := (-1 : Int32)) dX11_length_11 (by decide) ?_
  exact aj_iret dX11_length_12 rfl rfl rfl
def gX11_appoint (S : List (Nat × Nat)) (p0 : Nat) (x1 : Int32) (M : zM) : Option (Int32 × zM) := zgR S M (p0) 11 14 3 (fun r1 => zrc S (r1) 10 18 ((gX10_hasTrade S (r1) (x1) M).bind (fun v2 => (if v2 = 0 then some ((0 : Int32), M) else zgR S M (p0) 11 14 11 (fun r3 => zgR S M (p0) 11 14 5 (fun r4 => zrc S (r3) 8 2 ((gX8_add S (r3) (r4) M).bind (fun M5 => zgR S M5 (p0) 11 14 5 (fun r6 => zpI S M5 (r6) 7 15 3 (x1) (fun M7 => some ((1 : Int32), M7)))))))))))
set_option maxHeartbeats 4000000 in
set_option maxRecDepth 100000 in
theorem c_X11_appoint (w : zWd) (S : List (Nat × Nat)) (p0 : Nat) (x1 : Int32) (M : zM) : CT (zfIM S) w 3 mX11_appoint [.ref (p0), .int (x1)] (S, M) (gX11_appoint S p0 x1 M) := by
  refine CT.of (by decide) (Nat.le_of_ble_eq_true rfl) ?_
  show AJ _ _ _ _ 0 [(0, .ref (p0)), (1, .int (x1))] [] _ _
  unfold gX11_appoint
  refine aj_aload_n (0) dX11_appoint_0 rfl rfl ?_
  refine aj_getR (TX := TX11) zc11 (by decide) rfl (Or.inl zg_563) dX11_appoint_1 (fun r1 => ?_)
  refine aj_iload_n (1) dX11_appoint_4 rfl rfl ?_
  refine rV_I (as := [.int (x1)]) (c_X10_hasTrade w S _ _ _) mv_X10_hasTrade rfl zg_846 (by decide) (Nat.le_of_ble_eq_true rfl) dX11_appoint_5 (fun v2 => ?_)
  refine aj_if_ne (tgt := 13) dX11_appoint_8 (by decide) (fun h => ?_) (fun h => ?_)
  · refine aj_aload_n (0) dX11_appoint_13 rfl rfl ?_
    refine aj_getR (TX := TX11) zc11 (by decide) rfl (Or.inl zg_571) dX11_appoint_14 (fun r3 => ?_)
    refine aj_aload_n (0) dX11_appoint_17 rfl rfl ?_
    refine aj_getR (TX := TX11) zc11 (by decide) rfl (Or.inl zg_565) dX11_appoint_18 (fun r4 => ?_)
    refine rV_VM (as := [.ref (r4)]) (c_X8_add w S _ _ _) mv_X8_add rfl zg_906 (by decide) (Nat.le_of_ble_eq_true rfl) dX11_appoint_21 (fun M5 => ?_)
    refine aj_aload_n (0) dX11_appoint_24 rfl rfl ?_
    refine aj_getR (TX := TX11) zc11 (by decide) rfl (Or.inl zg_565) dX11_appoint_25 (fun r6 => ?_)
    refine aj_iload_n (1) dX11_appoint_28 rfl rfl ?_
    refine r_putI (TX := TX7) zc7 (by decide) rfl rfl rfl rfl (Or.inr ⟨_, zn_339⟩) dX11_appoint_29 (fun M7 => ?_)
    refine aj_iconst (v := (1 : Int32)) dX11_appoint_32 (by decide) ?_
    exact aj_iret dX11_appoint_33 rfl (by decide +kernel) rfl
  refine aj_iconst (v := (0 : Int32)) dX11_appoint_11 (by decide) ?_
  exact aj_iret dX11_appoint_12 rfl (by decide +kernel) rfl
def gX11_put (S : List (Nat × Nat)) (p0 : Nat) (x1 : Int32) (x2 : Int32) (M : zM) : Option (Int32 × zM) := zgR S M (p0) 11 14 5 (fun r1 => zrc S (r1) 7 15 ((gX7_hasPlace S (r1) (x1) M).bind (fun v2 => (if v2 = 0 then some ((-1 : Int32), M) else zgR S M (p0) 11 14 3 (fun r3 => zrc S (r3) 10 18 ((gX10_hasTrade S (r3) (x2) M).bind (fun v4 => (if v4 = 0 then some ((-1 : Int32), M) else zgR S M (p0) 11 14 11 (fun r5 => zgR S M (p0) 11 14 5 (fun r6 => zrc S (r5) 8 2 ((gX8_add S (r5) (r6) M).bind (fun M7 => zgR S M7 (p0) 11 14 5 (fun r8 => zgR S M7 (r8) 7 15 11 (fun r9 => zrc S (r9) 5 1 ((gX5_get S (r9) (x1) M7).bind (fun v10 => zgR S M7 (p0) 11 14 5 (fun r11 => zgR S M7 (r11) 7 15 11 (fun r12 => zrc S (r12) 5 1 ((gX5_set S (r12) (x1) (x2) M7).bind (fun M13 => some (v10, M13)))))))))))))))))))))
set_option maxHeartbeats 4000000 in
set_option maxRecDepth 100000 in
theorem c_X11_put (w : zWd) (S : List (Nat × Nat)) (p0 : Nat) (x1 : Int32) (x2 : Int32) (M : zM) : CT (zfIM S) w 3 mX11_put [.ref (p0), .int (x1), .int (x2)] (S, M) (gX11_put S p0 x1 x2 M) := by
  refine CT.of (by decide) (Nat.le_of_ble_eq_true rfl) ?_
  show AJ _ _ _ _ 0 [(0, .ref (p0)), (1, .int (x1)), (2, .int (x2))] [] _ _
  unfold gX11_put
  refine aj_aload_n (0) dX11_put_0 rfl rfl ?_
  refine aj_getR (TX := TX11) zc11 (by decide) rfl (Or.inl zg_565) dX11_put_1 (fun r1 => ?_)
  refine aj_iload_n (1) dX11_put_4 rfl rfl ?_
  refine rV_I (as := [.int (x1)]) (c_X7_hasPlace w S _ _ _) mv_X7_hasPlace rfl zg_829 (by decide) (Nat.le_of_ble_eq_true rfl) dX11_put_5 (fun v2 => ?_)
  refine aj_if_eq (tgt := 22) dX11_put_8 (by decide) (fun h => ?_) (fun h => ?_)
  · refine aj_iconst (v := (-1 : Int32)) dX11_put_22 (by decide) ?_
    exact aj_iret dX11_put_23 rfl rfl rfl
  refine aj_aload_n (0) dX11_put_11 rfl rfl ?_
  refine aj_getR (TX := TX11) zc11 (by decide) rfl (Or.inl zg_563) dX11_put_12 (fun r3 => ?_)
  refine aj_iload_n (2) dX11_put_15 rfl rfl ?_
  refine rV_I (as := [.int (x2)]) (c_X10_hasTrade w S _ _ _) mv_X10_hasTrade rfl zg_846 (by decide) (Nat.le_of_ble_eq_true rfl) dX11_put_16 (fun v4 => ?_)
  refine aj_if_ne (tgt := 24) dX11_put_19 (by decide) (fun h => ?_) (fun h => ?_)
  · refine aj_aload_n (0) dX11_put_24 rfl rfl ?_
    refine aj_getR (TX := TX11) zc11 (by decide) rfl (Or.inl zg_571) dX11_put_25 (fun r5 => ?_)
    refine aj_aload_n (0) dX11_put_28 rfl rfl ?_
    refine aj_getR (TX := TX11) zc11 (by decide) rfl (Or.inl zg_565) dX11_put_29 (fun r6 => ?_)
    refine rV_VM (as := [.ref (r6)]) (c_X8_add w S _ _ _) mv_X8_add rfl zg_906 (by decide) (Nat.le_of_ble_eq_true rfl) dX11_put_32 (fun M7 => ?_)
    refine aj_aload_n (0) dX11_put_35 rfl rfl ?_
    refine aj_getR (TX := TX11) zc11 (by decide) rfl (Or.inl zg_565) dX11_put_36 (fun r8 => ?_)
    refine aj_getR (TX := TX7) zc7 (by decide) rfl (Or.inr ⟨_, zn_366⟩) dX11_put_39 (fun r9 => ?_)
    refine aj_iload_n (1) dX11_put_42 rfl rfl ?_
    refine rV_I (as := [.int (x1)]) (c_X5_get w S _ _ _) mv_X5_get rfl zg_833 (by decide) (Nat.le_of_ble_eq_true rfl) dX11_put_43 (fun v10 => ?_)
    refine aj_istore_n (ls2 := [(3, .int (v10)), (0, .ref (p0)), (1, .int (x1)), (2, .int (x2))]) dX11_put_46 rfl (Nat.le_of_ble_eq_true rfl) rfl ?_
    refine aj_aload_n (1) dX11_put_47 rfl rfl ?_
    refine aj_getR (TX := TX11) zc11 (by decide) rfl (Or.inl zg_565) dX11_put_48 (fun r11 => ?_)
    refine aj_getR (TX := TX7) zc7 (by decide) rfl (Or.inr ⟨_, zn_366⟩) dX11_put_51 (fun r12 => ?_)
    refine aj_iload_n (2) dX11_put_54 rfl rfl ?_
    refine aj_iload_n (3) dX11_put_55 rfl rfl ?_
    refine rV_VM (as := [.int (x1), .int (x2)]) (c_X5_set w S _ _ _ _) mv_X5_set rfl zg_611 (by decide) (Nat.le_of_ble_eq_true rfl) dX11_put_56 (fun M13 => ?_)
    refine aj_iload_n (0) dX11_put_59 rfl rfl ?_
    exact aj_iret dX11_put_60 rfl rfl rfl
  refine aj_iconst (v := (-1 : Int32)) dX11_put_22 (by decide) ?_
  exact aj_iret dX11_put_23 rfl rfl rfl
def gX11_swap (S : List (Nat × Nat)) (p0 : Nat) (x1 : Int32) (x2 : Int32) (M : zM) : Option (Int32 × zM) := zgR S M (p0) 11 14 5 (fun r1 => zrc S (r1) 7 15 ((gX7_hasPlace S (r1) (x1) M).bind (fun v2 => (if v2 = 0 then some ((0 : Int32), M) else zgR S M (p0) 11 14 5 (fun r3 => zrc S (r3) 7 15 ((gX7_hasPlace S (r3) (x2) M).bind (fun v4 => (if v4 = 0 then some ((0 : Int32), M) else zgR S M (p0) 11 14 5 (fun r5 => zgR S M (r5) 7 15 11 (fun r6 => zrc S (r6) 5 1 ((gX5_get S (r6) (x1) M).bind (fun v7 => zgR S M (p0) 11 14 5 (fun r8 => zgR S M (r8) 7 15 11 (fun r9 => zrc S (r9) 5 1 ((gX5_get S (r9) (x2) M).bind (fun v10 => (if v7 = v10 then some ((0 : Int32), M) else zgR S M (p0) 11 14 11 (fun r11 => zgR S M (p0) 11 14 5 (fun r12 => zrc S (r11) 8 2 ((gX8_add S (r11) (r12) M).bind (fun M13 => zgR S M13 (p0) 11 14 5 (fun r14 => zgR S M13 (r14) 7 15 11 (fun r15 => zrc S (r15) 5 1 ((gX5_set S (r15) (x1) (v10) M13).bind (fun M16 => zgR S M16 (p0) 11 14 5 (fun r17 => zgR S M16 (r17) 7 15 11 (fun r18 => zrc S (r18) 5 1 ((gX5_set S (r18) (x2) (v7) M16).bind (fun M19 => some ((1 : Int32), M19))))))))))))))))))))))))))))))
set_option maxHeartbeats 4000000 in
set_option maxRecDepth 100000 in
theorem c_X11_swap (w : zWd) (S : List (Nat × Nat)) (p0 : Nat) (x1 : Int32) (x2 : Int32) (M : zM) : CT (zfIM S) w 3 mX11_swap [.ref (p0), .int (x1), .int (x2)] (S, M) (gX11_swap S p0 x1 x2 M) := by
  refine CT.of (by decide) (Nat.le_of_ble_eq_true rfl) ?_
  show AJ _ _ _ _ 0 [(0, .ref (p0)), (1, .int (x1)), (2, .int (x2))] [] _ _
  unfold gX11_swap
  refine aj_aload_n (0) dX11_swap_0 rfl rfl ?_
  refine aj_getR (TX := TX11) zc11 (by decide) rfl (Or.inl zg_565) dX11_swap_1 (fun r1 => ?_)
  refine aj_iload_n (1) dX11_swap_4 rfl rfl ?_
  refine rV_I (as := [.int (x1)]) (c_X7_hasPlace w S _ _ _) mv_X7_hasPlace rfl zg_829 (by decide) (Nat.le_of_ble_eq_true rfl) dX11_swap_5 (fun v2 => ?_)
  refine aj_if_eq (tgt := 22) dX11_swap_8 (by decide) (fun h => ?_) (fun h => ?_)
  · refine aj_iconst (v := (0 : Int32)) dX11_swap_22 (by decide) ?_
    exact aj_iret dX11_swap_23 rfl (by decide +kernel) rfl
  refine aj_aload_n (0) dX11_swap_11 rfl rfl ?_
  refine aj_getR (TX := TX11) zc11 (by decide) rfl (Or.inl zg_565) dX11_swap_12 (fun r3 => ?_)
  refine aj_iload_n (2) dX11_swap_15 rfl rfl ?_
  refine rV_I (as := [.int (x2)]) (c_X7_hasPlace w S _ _ _) mv_X7_hasPlace rfl zg_829 (by decide) (Nat.le_of_ble_eq_true rfl) dX11_swap_16 (fun v4 => ?_)
  refine aj_if_ne (tgt := 24) dX11_swap_19 (by decide) (fun h => ?_) (fun h => ?_)
  · refine aj_aload_n (0) dX11_swap_24 rfl rfl ?_
    refine aj_getR (TX := TX11) zc11 (by decide) rfl (Or.inl zg_565) dX11_swap_25 (fun r5 => ?_)
    refine aj_getR (TX := TX7) zc7 (by decide) rfl (Or.inr ⟨_, zn_366⟩) dX11_swap_28 (fun r6 => ?_)
    refine aj_iload_n (1) dX11_swap_31 rfl rfl ?_
    refine rV_I (as := [.int (x1)]) (c_X5_get w S _ _ _) mv_X5_get rfl zg_833 (by decide) (Nat.le_of_ble_eq_true rfl) dX11_swap_32 (fun v7 => ?_)
    refine aj_istore_n (ls2 := [(3, .int (v7)), (0, .ref (p0)), (1, .int (x1)), (2, .int (x2))]) dX11_swap_35 rfl (Nat.le_of_ble_eq_true rfl) rfl ?_
    refine aj_aload_n (1) dX11_swap_36 rfl rfl ?_
    refine aj_getR (TX := TX11) zc11 (by decide) rfl (Or.inl zg_565) dX11_swap_37 (fun r8 => ?_)
    refine aj_getR (TX := TX7) zc7 (by decide) rfl (Or.inr ⟨_, zn_366⟩) dX11_swap_40 (fun r9 => ?_)
    refine aj_iload_n (3) dX11_swap_43 rfl rfl ?_
    refine rV_I (as := [.int (x2)]) (c_X5_get w S _ _ _) mv_X5_get rfl zg_833 (by decide) (Nat.le_of_ble_eq_true rfl) dX11_swap_44 (fun v10 => ?_)
    refine aj_istore (ls2 := [(4, .int (v10)), (3, .int (v7)), (0, .ref (p0)), (1, .int (x1)), (2, .int (x2))]) dX11_swap_47 (Nat.le_of_ble_eq_true rfl) rfl ?_
    refine aj_iload_n (1) dX11_swap_49 rfl rfl ?_
    refine aj_iload (0) dX11_swap_50 rfl ?_
    refine aj_icmp_ne (tgt := 57) dX11_swap_52 (by decide) (fun h => ?_) (fun h => ?_)
    · refine aj_aload_n (2) dX11_swap_57 rfl rfl ?_
      refine aj_getR (TX := TX11) zc11 (by decide) rfl (Or.inl zg_571) dX11_swap_58 (fun r11 => ?_)
      refine aj_aload_n (2) dX11_swap_61 rfl rfl ?_
      refine aj_getR (TX := TX11) zc11 (by decide) rfl (Or.inl zg_565) dX11_swap_62 (fun r12 => ?_)
      refine rV_VM (as := [.ref (r12)]) (c_X8_add w S _ _ _) mv_X8_add rfl zg_906 (by decide) (Nat.le_of_ble_eq_true rfl) dX11_swap_65 (fun M13 => ?_)
      refine aj_aload_n (2) dX11_swap_68 rfl rfl ?_
      refine aj_getR (TX := TX11) zc11 (by decide) rfl (Or.inl zg_565) dX11_swap_69 (fun r14 => ?_)
      refine aj_getR (TX := TX7) zc7 (by decide) rfl (Or.inr ⟨_, zn_366⟩) dX11_swap_72 (fun r15 => ?_)
      refine aj_iload_n (3) dX11_swap_75 rfl rfl ?_
      refine aj_iload (0) dX11_swap_76 rfl ?_
      refine rV_VM (as := [.int (x1), .int (v10)]) (c_X5_set w S _ _ _ _) mv_X5_set rfl zg_611 (by decide) (Nat.le_of_ble_eq_true rfl) dX11_swap_78 (fun M16 => ?_)
      refine aj_aload_n (2) dX11_swap_81 rfl rfl ?_
      refine aj_getR (TX := TX11) zc11 (by decide) rfl (Or.inl zg_565) dX11_swap_82 (fun r17 => ?_)
      refine aj_getR (TX := TX7) zc7 (by decide) rfl (Or.inr ⟨_, zn_366⟩) dX11_swap_85 (fun r18 => ?_)
      refine aj_iload_n (4) dX11_swap_88 rfl rfl ?_
      refine aj_iload_n (1) dX11_swap_89 rfl rfl ?_
      refine rV_VM (as := [.int (x2), .int (v7)]) (c_X5_set w S _ _ _ _) mv_X5_set rfl zg_611 (by decide) (Nat.le_of_ble_eq_true rfl) dX11_swap_90 (fun M19 => ?_)
      refine aj_iconst (v := (1 : Int32)) dX11_swap_93 (by decide) ?_
      exact aj_iret dX11_swap_94 rfl (by decide +kernel) rfl
    refine aj_iconst (v := (0 : Int32)) dX11_swap_55 (by decide) ?_
    exact aj_iret dX11_swap_56 rfl (by decide +kernel) rfl
  refine aj_iconst (v := (0 : Int32)) dX11_swap_22 (by decide) ?_
  exact aj_iret dX11_swap_23 rfl (by decide +kernel) rfl
def gX11_isDays (S : List (Nat × Nat)) (x0 : Int32) (M : zM) : Option Int32 := (if x0 < 0 then some ((0 : Int32)) else (if (200 : Int32) < x0 then some ((0 : Int32)) else some ((1 : Int32))))
set_option maxHeartbeats 4000000 in
set_option maxRecDepth 100000 in
theorem c_X11_isDays (w : zWd) (S : List (Nat × Nat)) (x0 : Int32) (M : zM) : CT (zfI S M) w 1 mX11_isDays [.int (x0)] (S, M) (gX11_isDays S x0 M) := by
  refine CT.of (by decide) (Nat.le_of_ble_eq_true rfl) ?_
  show AJ _ _ _ _ 0 [(0, .int (x0))] [] _ _
  unfold gX11_isDays
  refine aj_iload_n (0) dX11_isDays_0 rfl rfl ?_
  refine aj_if_lt (tgt := 15) dX11_isDays_1 (by decide) (fun h => ?_) (fun h => ?_)
  · refine aj_iconst (v := (0 : Int32)) dX11_isDays_15 (by decide) ?_
    exact aj_iret dX11_isDays_16 rfl (by decide +kernel) rfl
  refine aj_iload_n (0) dX11_isDays_4 rfl rfl ?_
  refine aj_sipush (v := (200 : Int32)) dX11_isDays_5 (by decide) ?_
  refine aj_icmp_gt (tgt := 15) dX11_isDays_8 (by decide) (fun h => ?_) (fun h => ?_)
  · refine aj_iconst (v := (0 : Int32)) dX11_isDays_15 (by decide) ?_
    exact aj_iret dX11_isDays_16 rfl (by decide +kernel) rfl
  refine aj_iconst (v := (1 : Int32)) dX11_isDays_11 (by decide) ?_
  refine aj_goto (tgt := 16) dX11_isDays_12 (by decide) ?_
  exact aj_iret dX11_isDays_16 rfl (by decide +kernel) rfl
def gX11_go (S : List (Nat × Nat)) (p0 : Nat) (x1 : Int32) (M : zM) : Option (Int32 × zM) := (gX11_isDays S (x1) M).bind (fun v1 => (if v1 = 0 then some ((-1 : Int32), M) else zgR S M (p0) 11 14 5 (fun r2 => zgI S M (r2) 7 15 0 (fun v3 => (if (v3 + x1) ≤ (9800 : Int32) then zgR S M (p0) 11 14 9 (fun r4 => zgR S M (p0) 11 14 3 (fun r5 => zrc S (r4) 0 6 ((gX0_goesOf S (r4) (r5) M).bind (fun M6 => zgR S M6 (p0) 11 14 9 (fun r7 => zpI S M6 (r7) 0 6 2 ((1 : Int32)) (fun M8 => zgR S M8 (p0) 11 14 9 (fun r9 => zgR S M8 (p0) 11 14 5 (fun r10 => zrc S (r9) 0 6 ((gX0_daysGo S (r9) (r10) (x1) M8).bind (fun M11 => (if x1 ≤ 0 then zgR S M11 (p0) 11 14 5 (fun r12 => zgI S M11 (r12) 7 15 0 (fun v13 => some (v13, M11))) else zgR S M11 (p0) 11 14 11 (fun r14 => zrc S (r14) 8 2 ((gX8_clear S (r14) M11).bind (fun M15 => zgR S M15 (p0) 11 14 5 (fun r16 => zgI S M15 (r16) 7 15 0 (fun v17 => some (v17, M15))))))))))))))))) else some ((-1 : Int32), M))))))
set_option maxHeartbeats 4000000 in
set_option maxRecDepth 100000 in
theorem c_X11_go (w : zWd) (S : List (Nat × Nat)) (p0 : Nat) (x1 : Int32) (M : zM) : CT (zfIM S) w 8 mX11_go [.ref (p0), .int (x1)] (S, M) (gX11_go S p0 x1 M) := by
  refine CT.of (by decide) (Nat.le_of_ble_eq_true rfl) ?_
  show AJ _ _ _ _ 0 [(0, .ref (p0)), (1, .int (x1))] [] _ _
  unfold gX11_go
  refine aj_iload_n (1) dX11_go_0 rfl rfl ?_
  refine rS_I (as := [.int (x1)]) (c_X11_isDays w S _ _) ms_X11_isDays rfl zg_924 (by decide) (Nat.le_of_ble_eq_true rfl) dX11_go_1 (fun v1 => ?_)
  refine aj_if_eq (tgt := 22) dX11_go_4 (by decide) (fun h => ?_) (fun h => ?_)
  · refine aj_iconst (v := (-1 : Int32)) dX11_go_22 (by decide) ?_
    exact aj_iret dX11_go_23 rfl rfl rfl
  refine aj_aload_n (0) dX11_go_7 rfl rfl ?_
  refine aj_getR (TX := TX11) zc11 (by decide) rfl (Or.inl zg_565) dX11_go_8 (fun r2 => ?_)
  refine r_getI (TX := TX7) zc7 (by decide) rfl (Or.inr ⟨_, zn_329⟩) dX11_go_11 (fun v3 => ?_)
  refine aj_iload_n (1) dX11_go_14 rfl rfl ?_
  refine aj_iadd dX11_go_15 ?_
  refine aj_sipush (v := (9800 : Int32)) dX11_go_16 (by decide) ?_
  refine aj_icmp_le (tgt := 24) dX11_go_19 (by decide) (fun h => ?_) (fun h => ?_)
  · refine aj_aload_n (0) dX11_go_24 rfl rfl ?_
    refine aj_getR (TX := TX11) zc11 (by decide) rfl (Or.inl zg_569) dX11_go_25 (fun r4 => ?_)
    refine aj_aload_n (0) dX11_go_28 rfl rfl ?_
    refine aj_getR (TX := TX11) zc11 (by decide) rfl (Or.inl zg_563) dX11_go_29 (fun r5 => ?_)
    refine rV_VM (as := [.ref (r5)]) (c_X0_goesOf w S _ _ _) mv_X0_goesOf rfl zg_851 (by decide) (Nat.le_of_ble_eq_true rfl) dX11_go_32 (fun M6 => ?_)
    refine aj_aload_n (0) dX11_go_35 rfl rfl ?_
    refine aj_getR (TX := TX11) zc11 (by decide) rfl (Or.inl zg_569) dX11_go_36 (fun r7 => ?_)
    refine aj_iconst (v := (1 : Int32)) dX11_go_39 (by decide) ?_
    refine r_putI (TX := TX0) zc0 (by decide) rfl rfl (by decide +kernel) rfl (Or.inr ⟨_, zn_421⟩) dX11_go_40 (fun M8 => ?_)
    refine aj_aload_n (0) dX11_go_43 rfl rfl ?_
    refine aj_getR (TX := TX11) zc11 (by decide) rfl (Or.inl zg_569) dX11_go_44 (fun r9 => ?_)
    refine aj_aload_n (0) dX11_go_47 rfl rfl ?_
    refine aj_getR (TX := TX11) zc11 (by decide) rfl (Or.inl zg_565) dX11_go_48 (fun r10 => ?_)
    refine aj_iload_n (1) dX11_go_51 rfl rfl ?_
    refine rV_VM (as := [.ref (r10), .int (x1)]) (c_X0_daysGo w S _ _ _ _) mv_X0_daysGo rfl zg_927 (by decide) (Nat.le_of_ble_eq_true rfl) dX11_go_52 (fun M11 => ?_)
    refine aj_iload_n (1) dX11_go_55 rfl rfl ?_
    refine aj_if_le (tgt := 66) dX11_go_56 (by decide) (fun h => ?_) (fun h => ?_)
    · refine aj_aload_n (0) dX11_go_66 rfl rfl ?_
      refine aj_getR (TX := TX11) zc11 (by decide) rfl (Or.inl zg_565) dX11_go_67 (fun r12 => ?_)
      refine r_getI (TX := TX7) zc7 (by decide) rfl (Or.inr ⟨_, zn_329⟩) dX11_go_70 (fun v13 => ?_)
      exact aj_iret dX11_go_73 rfl rfl rfl
    refine aj_aload_n (0) dX11_go_59 rfl rfl ?_
    refine aj_getR (TX := TX11) zc11 (by decide) rfl (Or.inl zg_571) dX11_go_60 (fun r14 => ?_)
    refine rV_VM (as := []) (c_X8_clear w S _ _) mv_X8_clear rfl zg_811 (by decide) (Nat.le_of_ble_eq_true rfl) dX11_go_63 (fun M15 => ?_)
    refine aj_aload_n (0) dX11_go_66 rfl rfl ?_
    refine aj_getR (TX := TX11) zc11 (by decide) rfl (Or.inl zg_565) dX11_go_67 (fun r16 => ?_)
    refine r_getI (TX := TX7) zc7 (by decide) rfl (Or.inr ⟨_, zn_329⟩) dX11_go_70 (fun v17 => ?_)
    exact aj_iret dX11_go_73 rfl rfl rfl
  refine aj_iconst (v := (-1 : Int32)) dX11_go_22 (by decide) ?_
  exact aj_iret dX11_go_23 rfl rfl rfl
def gX11_tryDays_24 (S : List (Nat × Nat)) : Nat → Nat → Int32 → Int32 → zM → Option zM
  | 0 => fun _ _ _ _ => none
  | n + 1 => fun p0 x1 x2 M => (if x1 ≤ x2 then some M else zgR S M (p0) 11 14 9 (fun r1 => zgR S M (p0) 11 14 6 (fun r2 => zrc S (r1) 0 6 ((gX0_dayGoes S (r1) (r2) M).bind (fun M3 => (gX11_tryDays_24 S   n) (p0) (x1) ((x2 + (1 : Int32))) M3)))))
set_option maxHeartbeats 4000000 in
set_option maxRecDepth 100000 in
theorem t_X11_tryDays_24 (w : zWd) (S : List (Nat × Nat)) (fu : Nat) : ∀ (p0 : Nat) (x1 : Int32) (x2 : Int32) (M : zM), AJ (zfVM S) w 7 mX11_tryDays 24 [(0, .ref (p0)), (1, .int (x1)), (2, .int (x2))] [] (S, M) (gX11_tryDays_24 S fu p0 x1 x2 M) := by
  induction fu with
  | zero => intro p0 x1 x2 M; exact AJ.none
  | succ n ih =>
    intro p0 x1 x2 M
    unfold gX11_tryDays_24
    refine aj_iload_n (2) dX11_tryDays_24 rfl rfl ?_
    refine aj_iload_n (1) dX11_tryDays_25 rfl rfl ?_
    refine aj_icmp_ge (tgt := 46) dX11_tryDays_26 (by decide) (fun h => ?_) (fun h => ?_)
    · exact aj_vret dX11_tryDays_46 rfl rfl
    refine aj_aload_n (0) dX11_tryDays_29 rfl rfl ?_
    refine aj_getR (TX := TX11) zc11 (by decide) rfl (Or.inl zg_569) dX11_tryDays_30 (fun r1 => ?_)
    refine aj_aload_n (0) dX11_tryDays_33 rfl rfl ?_
    refine aj_getR (TX := TX11) zc11 (by decide) rfl (Or.inl zg_566) dX11_tryDays_34 (fun r2 => ?_)
    refine rV_VM (as := [.ref (r2)]) (c_X0_dayGoes w S _ _ _) mv_X0_dayGoes rfl zg_980 (by decide) (Nat.le_of_ble_eq_true rfl) dX11_tryDays_37 (fun M3 => ?_)
    refine aj_iinc (j := 2) (v := (x2 + (1 : Int32))) (ls2 := [(2, .int ((x2 + (1 : Int32)))), (0, .ref (p0)), (1, .int (x1))]) dX11_tryDays_40 rfl rfl (Nat.le_of_ble_eq_true rfl) rfl ?_
    refine aj_goto (tgt := 24) dX11_tryDays_43 (by decide) ?_
    refine AJ.sub [1, 2, 0] rfl ?_
    exact ih (p0) (x1) ((x2 + (1 : Int32))) M3
def gX11_tryDays (S : List (Nat × Nat)) (p0 : Nat) (x1 : Int32) (M : zM) : Option zM := zgR S M (p0) 11 14 9 (fun r1 => zgR S M (p0) 11 14 3 (fun r2 => zrc S (r1) 0 6 ((gX0_goesOf S (r1) (r2) M).bind (fun M3 => zgR S M3 (p0) 11 14 6 (fun r4 => zgR S M3 (p0) 11 14 5 (fun r5 => zrc S (r4) 7 15 ((gX7_copy S (r4) (r5) M3).bind (fun M6 => gX11_tryDays_24 S zfu (p0) (x1) ((0 : Int32)) M6))))))))
set_option maxHeartbeats 4000000 in
set_option maxRecDepth 100000 in
theorem c_X11_tryDays (w : zWd) (S : List (Nat × Nat)) (p0 : Nat) (x1 : Int32) (M : zM) : CT (zfVM S) w 7 mX11_tryDays [.ref (p0), .int (x1)] (S, M) (gX11_tryDays S p0 x1 M) := by
  refine CT.of (by decide) (Nat.le_of_ble_eq_true rfl) ?_
  show AJ _ _ _ _ 0 [(0, .ref (p0)), (1, .int (x1))] [] _ _
  unfold gX11_tryDays
  refine aj_aload_n (0) dX11_tryDays_0 rfl rfl ?_
  refine aj_getR (TX := TX11) zc11 (by decide) rfl (Or.inl zg_569) dX11_tryDays_1 (fun r1 => ?_)
  refine aj_aload_n (0) dX11_tryDays_4 rfl rfl ?_
  refine aj_getR (TX := TX11) zc11 (by decide) rfl (Or.inl zg_563) dX11_tryDays_5 (fun r2 => ?_)
  refine rV_VM (as := [.ref (r2)]) (c_X0_goesOf w S _ _ _) mv_X0_goesOf rfl zg_851 (by decide) (Nat.le_of_ble_eq_true rfl) dX11_tryDays_8 (fun M3 => ?_)
  refine aj_aload_n (0) dX11_tryDays_11 rfl rfl ?_
  refine aj_getR (TX := TX11) zc11 (by decide) rfl (Or.inl zg_566) dX11_tryDays_12 (fun r4 => ?_)
  refine aj_aload_n (0) dX11_tryDays_15 rfl rfl ?_
  refine aj_getR (TX := TX11) zc11 (by decide) rfl (Or.inl zg_565) dX11_tryDays_16 (fun r5 => ?_)
  refine rV_VM (as := [.ref (r5)]) (c_X7_copy w S _ _ _) mv_X7_copy rfl zg_976 (by decide) (Nat.le_of_ble_eq_true rfl) dX11_tryDays_19 (fun M6 => ?_)
  refine aj_iconst (v := (0 : Int32)) dX11_tryDays_22 (by decide) ?_
  refine aj_istore_n (ls2 := [(2, .int ((0 : Int32))), (0, .ref (p0)), (1, .int (x1))]) dX11_tryDays_23 rfl (Nat.le_of_ble_eq_true rfl) rfl ?_
  refine AJ.sub [1, 2, 0] rfl ?_
  exact t_X11_tryDays_24 w S zfu (p0) (x1) ((0 : Int32)) M6
def gX11_ahead_34 (S : List (Nat × Nat)) (p0 : Nat) (x1 : Int32) (x2 : Int32) (x3 : Int32) (M : zM) : Option (Int32 × zM) := zrc S (p0) 11 14 ((gX11_tryDays S (p0) (x1) M).bind (fun M1 => (if x2 = (0 : Int32) then zgR S M1 (p0) 11 14 3 (fun r3 => zgI S M1 (r3) 10 18 10 (fun v4 => zgR S M1 (p0) 11 14 6 (fun r5 => zgI S M1 (r5) 7 15 5 (fun v6 => some ((v4 - v6), M1))))) else (if x2 = (1 : Int32) then zgR S M1 (p0) 11 14 6 (fun r8 => zgR S M1 (r8) 7 15 12 (fun r9 => zrc S (r9) 5 1 ((gX5_get S (r9) (x3) M1).bind (fun v10 => some (v10, M1))))) else (if x2 = (2 : Int32) then zgR S M1 (p0) 11 14 6 (fun r12 => zgI S M1 (r12) 7 15 7 (fun v13 => zgR S M1 (p0) 11 14 5 (fun r14 => zgI S M1 (r14) 7 15 7 (fun v15 => some ((v13 - v15), M1))))) else (if x2 = (3 : Int32) then zgR S M1 (p0) 11 14 6 (fun r17 => zgI S M1 (r17) 7 15 6 (fun v18 => zgR S M1 (p0) 11 14 5 (fun r19 => zgI S M1 (r19) 7 15 6 (fun v20 => some ((v18 - v20), M1))))) else zgR S M1 (p0) 11 14 6 (fun r21 => zgI S M1 (r21) 7 15 8 (fun v22 => zgR S M1 (p0) 11 14 5 (fun r23 => zgI S M1 (r23) 7 15 8 (fun v24 => some ((v22 - v24), M1)))))))))))
set_option maxHeartbeats 4000000 in
set_option maxRecDepth 100000 in
theorem t_X11_ahead_34 (w : zWd) (S : List (Nat × Nat)) (p0 : Nat) (x1 : Int32) (x2 : Int32) (x3 : Int32) (M : zM) : AJ (zfIM S) w 8 mX11_ahead 34 [(0, .ref (p0)), (1, .int (x1)), (2, .int (x2)), (3, .int (x3))] [] (S, M) (gX11_ahead_34 S p0 x1 x2 x3 M) := by
  unfold gX11_ahead_34
  refine aj_aload_n (0) dX11_ahead_34 rfl rfl ?_
  refine aj_iload_n (1) dX11_ahead_35 rfl rfl ?_
  refine rV_VM (as := [.int (x1)]) (c_X11_tryDays w S _ _ _) mv_X11_tryDays rfl zg_972 (by decide) (Nat.le_of_ble_eq_true rfl) dX11_ahead_36 (fun M1 => ?_)
  refine aj_iload_n (2) dX11_ahead_39 rfl rfl ?_
  refine aj_ite (fun h => ?_) (fun h2 => ?_)
  · have h9 : x2 = (0 : Int32) := h
    refine aj_tsw (tgt := 72) (off := 32) dX11_ahead_40 (by rw [h9]; decide) (by rw [h9]; decide) (by rw [h9]; decide +kernel) (by decide) ?_
    refine aj_aload_n (0) dX11_ahead_72 rfl rfl ?_
    refine aj_getR (TX := TX11) zc11 (by decide) rfl (Or.inl zg_563) dX11_ahead_73 (fun r3 => ?_)
    refine r_getI (TX := TX10) zc10 (by decide) rfl (Or.inr ⟨_, zn_216⟩) dX11_ahead_76 (fun v4 => ?_)
    refine aj_aload_n (0) dX11_ahead_79 rfl rfl ?_
    refine aj_getR (TX := TX11) zc11 (by decide) rfl (Or.inl zg_566) dX11_ahead_80 (fun r5 => ?_)
    refine r_getI (TX := TX7) zc7 (by decide) rfl (Or.inr ⟨_, zn_346⟩) dX11_ahead_83 (fun v6 => ?_)
    refine aj_isub dX11_ahead_86 ?_
    exact aj_iret dX11_ahead_87 rfl rfl rfl
  refine aj_ite (fun h => ?_) (fun h7 => ?_)
  · have h9 : x2 = (1 : Int32) := h
    refine aj_tsw (tgt := 88) (off := 48) dX11_ahead_40 (by rw [h9]; decide) (by rw [h9]; decide) (by rw [h9]; decide +kernel) (by decide) ?_
    refine aj_aload_n (0) dX11_ahead_88 rfl rfl ?_
    refine aj_getR (TX := TX11) zc11 (by decide) rfl (Or.inl zg_566) dX11_ahead_89 (fun r8 => ?_)
    refine aj_getR (TX := TX7) zc7 (by decide) rfl (Or.inr ⟨_, zn_368⟩) dX11_ahead_92 (fun r9 => ?_)
    refine aj_iload_n (3) dX11_ahead_95 rfl rfl ?_
    refine rV_I (as := [.int (x3)]) (c_X5_get w S _ _ _) mv_X5_get rfl zg_833 (by decide) (Nat.le_of_ble_eq_true rfl) dX11_ahead_96 (fun v10 => ?_)
    exact aj_iret dX11_ahead_99 rfl rfl rfl
  refine aj_ite (fun h => ?_) (fun h11 => ?_)
  · have h9 : x2 = (2 : Int32) := h
    refine aj_tsw (tgt := 100) (off := 60) dX11_ahead_40 (by rw [h9]; decide) (by rw [h9]; decide) (by rw [h9]; decide +kernel) (by decide) ?_
    refine aj_aload_n (0) dX11_ahead_100 rfl rfl ?_
    refine aj_getR (TX := TX11) zc11 (by decide) rfl (Or.inl zg_566) dX11_ahead_101 (fun r12 => ?_)
    refine r_getI (TX := TX7) zc7 (by decide) rfl (Or.inr ⟨_, zn_352⟩) dX11_ahead_104 (fun v13 => ?_)
    refine aj_aload_n (0) dX11_ahead_107 rfl rfl ?_
    refine aj_getR (TX := TX11) zc11 (by decide) rfl (Or.inl zg_565) dX11_ahead_108 (fun r14 => ?_)
    refine r_getI (TX := TX7) zc7 (by decide) rfl (Or.inr ⟨_, zn_352⟩) dX11_ahead_111 (fun v15 => ?_)
    refine aj_isub dX11_ahead_114 ?_
    exact aj_iret dX11_ahead_115 rfl rfl rfl
  refine aj_ite (fun h => ?_) (fun h16 => ?_)
  · have h9 : x2 = (3 : Int32) := h
    refine aj_tsw (tgt := 116) (off := 76) dX11_ahead_40 (by rw [h9]; decide) (by rw [h9]; decide) (by rw [h9]; decide +kernel) (by decide) ?_
    refine aj_aload_n (0) dX11_ahead_116 rfl rfl ?_
    refine aj_getR (TX := TX11) zc11 (by decide) rfl (Or.inl zg_566) dX11_ahead_117 (fun r17 => ?_)
    refine r_getI (TX := TX7) zc7 (by decide) rfl (Or.inr ⟨_, zn_349⟩) dX11_ahead_120 (fun v18 => ?_)
    refine aj_aload_n (0) dX11_ahead_123 rfl rfl ?_
    refine aj_getR (TX := TX11) zc11 (by decide) rfl (Or.inl zg_565) dX11_ahead_124 (fun r19 => ?_)
    refine r_getI (TX := TX7) zc7 (by decide) rfl (Or.inr ⟨_, zn_349⟩) dX11_ahead_127 (fun v20 => ?_)
    refine aj_isub dX11_ahead_130 ?_
    exact aj_iret dX11_ahead_131 rfl rfl rfl
  refine aj_tswO (tgt := 132) dX11_ahead_40 (by have a0 := lv_neT (k := (0 : Int32)) h2 (a := 0) (by decide); have a1 := lv_neT (k := (1 : Int32)) h7 (a := 1) (by decide); have a2 := lv_neT (k := (2 : Int32)) h11 (a := 2) (by decide); have a3 := lv_neT (k := (3 : Int32)) h16 (a := 3) (by decide); omega) (by decide) ?_
  refine aj_aload_n (0) dX11_ahead_132 rfl rfl ?_
  refine aj_getR (TX := TX11) zc11 (by decide) rfl (Or.inl zg_566) dX11_ahead_133 (fun r21 => ?_)
  refine r_getI (TX := TX7) zc7 (by decide) rfl (Or.inr ⟨_, zn_354⟩) dX11_ahead_136 (fun v22 => ?_)
  refine aj_aload_n (0) dX11_ahead_139 rfl rfl ?_
  refine aj_getR (TX := TX11) zc11 (by decide) rfl (Or.inl zg_565) dX11_ahead_140 (fun r23 => ?_)
  refine r_getI (TX := TX7) zc7 (by decide) rfl (Or.inr ⟨_, zn_354⟩) dX11_ahead_143 (fun v24 => ?_)
  refine aj_isub dX11_ahead_146 ?_
  exact aj_iret dX11_ahead_147 rfl rfl rfl
def gX11_ahead (S : List (Nat × Nat)) (p0 : Nat) (x1 : Int32) (x2 : Int32) (x3 : Int32) (M : zM) : Option (Int32 × zM) := (gX11_isDays S (x1) M).bind (fun v1 => (if v1 = 0 then some ((-1 : Int32), M) else (if x2 < 0 then some ((-1 : Int32), M) else (if (4 : Int32) < x2 then some ((-1 : Int32), M) else (if x2 = (1 : Int32) then zgR S M (p0) 11 14 3 (fun r2 => zrc S (r2) 10 18 ((gX10_hasTrade S (r2) (x3) M).bind (fun v3 => (if v3 = 0 then some ((-1 : Int32), M) else gX11_ahead_34 S (p0) (x1) (x2) (x3) M)))) else gX11_ahead_34 S (p0) (x1) (x2) (x3) M)))))
set_option maxHeartbeats 4000000 in
set_option maxRecDepth 100000 in
theorem c_X11_ahead (w : zWd) (S : List (Nat × Nat)) (p0 : Nat) (x1 : Int32) (x2 : Int32) (x3 : Int32) (M : zM) : CT (zfIM S) w 8 mX11_ahead [.ref (p0), .int (x1), .int (x2), .int (x3)] (S, M) (gX11_ahead S p0 x1 x2 x3 M) := by
  refine CT.of (by decide) (Nat.le_of_ble_eq_true rfl) ?_
  show AJ _ _ _ _ 0 [(0, .ref (p0)), (1, .int (x1)), (2, .int (x2)), (3, .int (x3))] [] _ _
  unfold gX11_ahead
  refine aj_iload_n (1) dX11_ahead_0 rfl rfl ?_
  refine rS_I (as := [.int (x1)]) (c_X11_isDays w S _ _) ms_X11_isDays rfl zg_924 (by decide) (Nat.le_of_ble_eq_true rfl) dX11_ahead_1 (fun v1 => ?_)
  refine aj_if_eq (tgt := 32) dX11_ahead_4 (by decide) (fun h => ?_) (fun h => ?_)
  · refine aj_iconst (v := (-1 : Int32)) dX11_ahead_32 (by decide) ?_
    exact aj_iret dX11_ahead_33 rfl rfl rfl
  refine aj_iload_n (2) dX11_ahead_7 rfl rfl ?_
  refine aj_if_lt (tgt := 32) dX11_ahead_8 (by decide) (fun h => ?_) (fun h => ?_)
  · refine aj_iconst (v := (-1 : Int32)) dX11_ahead_32 (by decide) ?_
    exact aj_iret dX11_ahead_33 rfl rfl rfl
  refine aj_iload_n (2) dX11_ahead_11 rfl rfl ?_
  refine aj_iconst (v := (4 : Int32)) dX11_ahead_12 (by decide) ?_
  refine aj_icmp_gt (tgt := 32) dX11_ahead_13 (by decide) (fun h => ?_) (fun h => ?_)
  · refine aj_iconst (v := (-1 : Int32)) dX11_ahead_32 (by decide) ?_
    exact aj_iret dX11_ahead_33 rfl rfl rfl
  refine aj_iload_n (2) dX11_ahead_16 rfl rfl ?_
  refine aj_iconst (v := (1 : Int32)) dX11_ahead_17 (by decide) ?_
  refine aj_icmp_ne (tgt := 34) dX11_ahead_18 (by decide) (fun h => ?_) (fun h => ?_)
  · refine AJ.sub [0, 1, 2, 3] rfl ?_
    exact t_X11_ahead_34 w S (p0) (x1) (x2) (x3) M
  refine aj_aload_n (0) dX11_ahead_21 rfl rfl ?_
  refine aj_getR (TX := TX11) zc11 (by decide) rfl (Or.inl zg_563) dX11_ahead_22 (fun r2 => ?_)
  refine aj_iload_n (3) dX11_ahead_25 rfl rfl ?_
  refine rV_I (as := [.int (x3)]) (c_X10_hasTrade w S _ _ _) mv_X10_hasTrade rfl zg_846 (by decide) (Nat.le_of_ble_eq_true rfl) dX11_ahead_26 (fun v3 => ?_)
  refine aj_if_ne (tgt := 34) dX11_ahead_29 (by decide) (fun h => ?_) (fun h => ?_)
  · refine AJ.sub [0, 1, 2, 3] rfl ?_
    exact t_X11_ahead_34 w S (p0) (x1) (x2) (x3) M
  refine aj_iconst (v := (-1 : Int32)) dX11_ahead_32 (by decide) ?_
  exact aj_iret dX11_ahead_33 rfl rfl rfl
def gX11_opener (S : List (Nat × Nat)) (p0 : Nat) (x1 : Int32) (M : zM) : Option (Int32 × zM) := (gX11_isDays S (x1) M).bind (fun v1 => (if v1 = 0 then some ((-1 : Int32), M) else zrc S (p0) 11 14 ((gX11_tryDays S (p0) ((x1 + (1 : Int32))) M).bind (fun M2 => zgR S M2 (p0) 11 14 6 (fun r3 => zgI S M2 (r3) 7 15 9 (fun v4 => (if v4 = (-1 : Int32) then some ((-2 : Int32), M2) else zgR S M2 (p0) 11 14 6 (fun r5 => zgI S M2 (r5) 7 15 9 (fun v6 => some (v6, M2))))))))))
set_option maxHeartbeats 4000000 in
set_option maxRecDepth 100000 in
theorem c_X11_opener (w : zWd) (S : List (Nat × Nat)) (p0 : Nat) (x1 : Int32) (M : zM) : CT (zfIM S) w 8 mX11_opener [.ref (p0), .int (x1)] (S, M) (gX11_opener S p0 x1 M) := by
  refine CT.of (by decide) (Nat.le_of_ble_eq_true rfl) ?_
  show AJ _ _ _ _ 0 [(0, .ref (p0)), (1, .int (x1))] [] _ _
  unfold gX11_opener
  refine aj_iload_n (1) dX11_opener_0 rfl rfl ?_
  refine rS_I (as := [.int (x1)]) (c_X11_isDays w S _ _) ms_X11_isDays rfl zg_924 (by decide) (Nat.le_of_ble_eq_true rfl) dX11_opener_1 (fun v1 => ?_)
  refine aj_if_ne (tgt := 9) dX11_opener_4 (by decide) (fun h => ?_) (fun h => ?_)
  · refine aj_aload_n (0) dX11_opener_9 rfl rfl ?_
    refine aj_iload_n (1) dX11_opener_10 rfl rfl ?_
    refine aj_iconst (v := (1 : Int32)) dX11_opener_11 (by decide) ?_
    refine aj_iadd dX11_opener_12 ?_
    refine rV_VM (as := [.int ((x1 + (1 : Int32)))]) (c_X11_tryDays w S _ _ _) mv_X11_tryDays rfl zg_972 (by decide) (Nat.le_of_ble_eq_true rfl) dX11_opener_13 (fun M2 => ?_)
    refine aj_aload_n (0) dX11_opener_16 rfl rfl ?_
    refine aj_getR (TX := TX11) zc11 (by decide) rfl (Or.inl zg_566) dX11_opener_17 (fun r3 => ?_)
    refine r_getI (TX := TX7) zc7 (by decide) rfl (Or.inr ⟨_, zn_357⟩) dX11_opener_20 (fun v4 => ?_)
    refine aj_iconst (v := (-1 : Int32)) dX11_opener_23 (by decide) ?_
    refine aj_icmp_ne (tgt := 32) dX11_opener_24 (by decide) (fun h => ?_) (fun h => ?_)
    · refine aj_aload_n (0) dX11_opener_32 rfl rfl ?_
      refine aj_getR (TX := TX11) zc11 (by decide) rfl (Or.inl zg_566) dX11_opener_33 (fun r5 => ?_)
      refine r_getI (TX := TX7) zc7 (by decide) rfl (Or.inr ⟨_, zn_357⟩) dX11_opener_36 (fun v6 => ?_)
      exact aj_iret dX11_opener_39 rfl rfl rfl
    refine aj_bipush (v := (-2 : Int32)) dX11_opener_27 (by decide) ?_
    refine aj_goto (tgt := 39) dX11_opener_29 (by decide) ?_
    exact aj_iret dX11_opener_39 rfl rfl rfl
  refine aj_iconst (v := (-1 : Int32)) dX11_opener_7 (by decide) ?_
  exact aj_iret dX11_opener_8 rfl rfl rfl
def gX11_longAt (S : List (Nat × Nat)) (p0 : Nat) (x1 : Int32) (M : zM) : Option (Int32 × zM) := (gX11_isDays S (x1) M).bind (fun v1 => (if v1 = 0 then some ((-1 : Int32), M) else zrc S (p0) 11 14 ((gX11_tryDays S (p0) ((x1 + (1 : Int32))) M).bind (fun M2 => zgR S M2 (p0) 11 14 6 (fun r3 => zgI S M2 (r3) 7 15 9 (fun v4 => (if v4 = (-1 : Int32) then some ((-2 : Int32), M2) else zgR S M2 (p0) 11 14 6 (fun r5 => zgI S M2 (r5) 7 15 4 (fun v6 => some (v6, M2))))))))))
set_option maxHeartbeats 4000000 in
set_option maxRecDepth 100000 in
theorem c_X11_longAt (w : zWd) (S : List (Nat × Nat)) (p0 : Nat) (x1 : Int32) (M : zM) : CT (zfIM S) w 8 mX11_longAt [.ref (p0), .int (x1)] (S, M) (gX11_longAt S p0 x1 M) := by
  refine CT.of (by decide) (Nat.le_of_ble_eq_true rfl) ?_
  show AJ _ _ _ _ 0 [(0, .ref (p0)), (1, .int (x1))] [] _ _
  unfold gX11_longAt
  refine aj_iload_n (1) dX11_longAt_0 rfl rfl ?_
  refine rS_I (as := [.int (x1)]) (c_X11_isDays w S _ _) ms_X11_isDays rfl zg_924 (by decide) (Nat.le_of_ble_eq_true rfl) dX11_longAt_1 (fun v1 => ?_)
  refine aj_if_ne (tgt := 9) dX11_longAt_4 (by decide) (fun h => ?_) (fun h => ?_)
  · refine aj_aload_n (0) dX11_longAt_9 rfl rfl ?_
    refine aj_iload_n (1) dX11_longAt_10 rfl rfl ?_
    refine aj_iconst (v := (1 : Int32)) dX11_longAt_11 (by decide) ?_
    refine aj_iadd dX11_longAt_12 ?_
    refine rV_VM (as := [.int ((x1 + (1 : Int32)))]) (c_X11_tryDays w S _ _ _) mv_X11_tryDays rfl zg_972 (by decide) (Nat.le_of_ble_eq_true rfl) dX11_longAt_13 (fun M2 => ?_)
    refine aj_aload_n (0) dX11_longAt_16 rfl rfl ?_
    refine aj_getR (TX := TX11) zc11 (by decide) rfl (Or.inl zg_566) dX11_longAt_17 (fun r3 => ?_)
    refine r_getI (TX := TX7) zc7 (by decide) rfl (Or.inr ⟨_, zn_357⟩) dX11_longAt_20 (fun v4 => ?_)
    refine aj_iconst (v := (-1 : Int32)) dX11_longAt_23 (by decide) ?_
    refine aj_icmp_ne (tgt := 32) dX11_longAt_24 (by decide) (fun h => ?_) (fun h => ?_)
    · refine aj_aload_n (0) dX11_longAt_32 rfl rfl ?_
      refine aj_getR (TX := TX11) zc11 (by decide) rfl (Or.inl zg_566) dX11_longAt_33 (fun r5 => ?_)
      refine r_getI (TX := TX7) zc7 (by decide) rfl (Or.inr ⟨_, zn_342⟩) dX11_longAt_36 (fun v6 => ?_)
      exact aj_iret dX11_longAt_39 rfl rfl rfl
    refine aj_bipush (v := (-2 : Int32)) dX11_longAt_27 (by decide) ?_
    refine aj_goto (tgt := 39) dX11_longAt_29 (by decide) ?_
    exact aj_iret dX11_longAt_39 rfl rfl rfl
  refine aj_iconst (v := (-1 : Int32)) dX11_longAt_7 (by decide) ?_
  exact aj_iret dX11_longAt_8 rfl rfl rfl
def gX11_doneWhen_20 (S : List (Nat × Nat)) : Nat → Nat → Int32 → Int32 → zM → Option (Int32 × zM)
  | 0 => fun _ _ _ _ => none
  | n + 1 => fun p0 x1 x2 M => (if (200 : Int32) ≤ x2 then some ((-2 : Int32), M) else zgR S M (p0) 11 14 6 (fun r1 => zgR S M (r1) 7 15 14 (fun r2 => zrc S (r2) 5 1 ((gX5_get S (r2) (x1) M).bind (fun v3 => zgR S M (p0) 11 14 3 (fun r4 => zgR S M (r4) 10 18 14 (fun r5 => zrc S (r5) 5 1 ((gX5_get S (r5) (x1) M).bind (fun v6 => (if v3 < v6 then zgR S M (p0) 11 14 9 (fun r7 => zgR S M (p0) 11 14 6 (fun r8 => zrc S (r7) 0 6 ((gX0_dayGoes S (r7) (r8) M).bind (fun M9 => (gX11_doneWhen_20 S   n) (p0) (x1) ((x2 + (1 : Int32))) M9)))) else some (x2, M)))))))))))
set_option maxHeartbeats 4000000 in
set_option maxRecDepth 100000 in
theorem t_X11_doneWhen_20 (w : zWd) (S : List (Nat × Nat)) (fu : Nat) : ∀ (p0 : Nat) (x1 : Int32) (x2 : Int32) (M : zM), AJ (zfIM S) w 8 mX11_doneWhen 20 [(0, .ref (p0)), (1, .int (x1)), (2, .int (x2))] [] (S, M) (gX11_doneWhen_20 S fu p0 x1 x2 M) := by
  induction fu with
  | zero => intro p0 x1 x2 M; exact AJ.none
  | succ n ih =>
    intro p0 x1 x2 M
    unfold gX11_doneWhen_20
    refine aj_iload_n (2) dX11_doneWhen_20 rfl rfl ?_
    refine aj_sipush (v := (200 : Int32)) dX11_doneWhen_21 (by decide) ?_
    refine aj_icmp_ge (tgt := 71) dX11_doneWhen_24 (by decide) (fun h => ?_) (fun h => ?_)
    · refine aj_bipush (v := (-2 : Int32)) dX11_doneWhen_71 (by decide) ?_
      exact aj_iret dX11_doneWhen_73 rfl rfl rfl
    refine aj_aload_n (0) dX11_doneWhen_27 rfl rfl ?_
    refine aj_getR (TX := TX11) zc11 (by decide) rfl (Or.inl zg_566) dX11_doneWhen_28 (fun r1 => ?_)
    refine aj_getR (TX := TX7) zc7 (by decide) rfl (Or.inr ⟨_, zn_375⟩) dX11_doneWhen_31 (fun r2 => ?_)
    refine aj_iload_n (1) dX11_doneWhen_34 rfl rfl ?_
    refine rV_I (as := [.int (x1)]) (c_X5_get w S _ _ _) mv_X5_get rfl zg_833 (by decide) (Nat.le_of_ble_eq_true rfl) dX11_doneWhen_35 (fun v3 => ?_)
    refine aj_aload_n (0) dX11_doneWhen_38 rfl rfl ?_
    refine aj_getR (TX := TX11) zc11 (by decide) rfl (Or.inl zg_563) dX11_doneWhen_39 (fun r4 => ?_)
    refine aj_getR (TX := TX10) zc10 (by decide) rfl (Or.inr ⟨_, zn_232⟩) dX11_doneWhen_42 (fun r5 => ?_)
    refine aj_iload_n (1) dX11_doneWhen_45 rfl rfl ?_
    refine rV_I (as := [.int (x1)]) (c_X5_get w S _ _ _) mv_X5_get rfl zg_833 (by decide) (Nat.le_of_ble_eq_true rfl) dX11_doneWhen_46 (fun v6 => ?_)
    refine aj_icmp_lt (tgt := 54) dX11_doneWhen_49 (by decide) (fun h => ?_) (fun h => ?_)
    · refine aj_aload_n (0) dX11_doneWhen_54 rfl rfl ?_
      refine aj_getR (TX := TX11) zc11 (by decide) rfl (Or.inl zg_569) dX11_doneWhen_55 (fun r7 => ?_)
      refine aj_aload_n (0) dX11_doneWhen_58 rfl rfl ?_
      refine aj_getR (TX := TX11) zc11 (by decide) rfl (Or.inl zg_566) dX11_doneWhen_59 (fun r8 => ?_)
      refine rV_VM (as := [.ref (r8)]) (c_X0_dayGoes w S _ _ _) mv_X0_dayGoes rfl zg_980 (by decide) (Nat.le_of_ble_eq_true rfl) dX11_doneWhen_62 (fun M9 => ?_)
      refine aj_iinc (j := 2) (v := (x2 + (1 : Int32))) (ls2 := [(2, .int ((x2 + (1 : Int32)))), (0, .ref (p0)), (1, .int (x1))]) dX11_doneWhen_65 rfl rfl (Nat.le_of_ble_eq_true rfl) rfl ?_
      refine aj_goto (tgt := 20) dX11_doneWhen_68 (by decide) ?_
      refine AJ.sub [1, 2, 0] rfl ?_
      exact ih (p0) (x1) ((x2 + (1 : Int32))) M9
    refine aj_iload_n (2) dX11_doneWhen_52 rfl rfl ?_
    exact aj_iret dX11_doneWhen_53 rfl rfl rfl
def gX11_doneWhen (S : List (Nat × Nat)) (p0 : Nat) (x1 : Int32) (M : zM) : Option (Int32 × zM) := zgR S M (p0) 11 14 3 (fun r1 => zrc S (r1) 10 18 ((gX10_hasWork S (r1) (x1) M).bind (fun v2 => (if v2 = 0 then some ((-1 : Int32), M) else zrc S (p0) 11 14 ((gX11_tryDays S (p0) ((0 : Int32)) M).bind (fun M3 => gX11_doneWhen_20 S zfu (p0) (x1) ((0 : Int32)) M3))))))
set_option maxHeartbeats 4000000 in
set_option maxRecDepth 100000 in
theorem c_X11_doneWhen (w : zWd) (S : List (Nat × Nat)) (p0 : Nat) (x1 : Int32) (M : zM) : CT (zfIM S) w 8 mX11_doneWhen [.ref (p0), .int (x1)] (S, M) (gX11_doneWhen S p0 x1 M) := by
  refine CT.of (by decide) (Nat.le_of_ble_eq_true rfl) ?_
  show AJ _ _ _ _ 0 [(0, .ref (p0)), (1, .int (x1))] [] _ _
  unfold gX11_doneWhen
  refine aj_aload_n (0) dX11_doneWhen_0 rfl rfl ?_
  refine aj_getR (TX := TX11) zc11 (by decide) rfl (Or.inl zg_563) dX11_doneWhen_1 (fun r1 => ?_)
  refine aj_iload_n (1) dX11_doneWhen_4 rfl rfl ?_
  refine rV_I (as := [.int (x1)]) (c_X10_hasWork w S _ _ _) mv_X10_hasWork rfl zg_838 (by decide) (Nat.le_of_ble_eq_true rfl) dX11_doneWhen_5 (fun v2 => ?_)
  refine aj_if_ne (tgt := 13) dX11_doneWhen_8 (by decide) (fun h => ?_) (fun h => ?_)
  · refine aj_aload_n (0) dX11_doneWhen_13 rfl rfl ?_
    refine aj_iconst (v := (0 : Int32)) dX11_doneWhen_14 (by decide) ?_
    refine rV_VM (as := [.int ((0 : Int32))]) (c_X11_tryDays w S _ _ _) mv_X11_tryDays rfl zg_972 (by decide) (Nat.le_of_ble_eq_true rfl) dX11_doneWhen_15 (fun M3 => ?_)
    refine aj_iconst (v := (0 : Int32)) dX11_doneWhen_18 (by decide) ?_
    refine aj_istore_n (ls2 := [(2, .int ((0 : Int32))), (0, .ref (p0)), (1, .int (x1))]) dX11_doneWhen_19 rfl (Nat.le_of_ble_eq_true rfl) rfl ?_
    refine AJ.sub [1, 2, 0] rfl ?_
    exact t_X11_doneWhen_20 w S zfu (p0) (x1) ((0 : Int32)) M3
  refine aj_iconst (v := (-1 : Int32)) dX11_doneWhen_11 (by decide) ?_
  exact aj_iret dX11_doneWhen_12 rfl rfl rfl
def gX11_soon_20 (S : List (Nat × Nat)) : Nat → Nat → Int32 → Int32 → zM → Option (Int32 × zM)
  | 0 => fun _ _ _ _ => none
  | n + 1 => fun p0 x1 x2 M => (if (200 : Int32) ≤ x2 then some ((-2 : Int32), M) else zgR S M (p0) 11 14 9 (fun r1 => zgR S M (p0) 11 14 6 (fun r2 => zrc S (r1) 0 6 ((gX0_dayGoes S (r1) (r2) M).bind (fun M3 => zgR S M3 (p0) 11 14 6 (fun r4 => zgI S M3 (r4) 7 15 9 (fun v5 => (if v5 = x1 then some (x2, M3) else (gX11_soon_20 S   n) (p0) (x1) ((x2 + (1 : Int32))) M3))))))))
set_option maxHeartbeats 4000000 in
set_option maxRecDepth 100000 in
theorem t_X11_soon_20 (w : zWd) (S : List (Nat × Nat)) (fu : Nat) : ∀ (p0 : Nat) (x1 : Int32) (x2 : Int32) (M : zM), AJ (zfIM S) w 8 mX11_soon 20 [(0, .ref (p0)), (1, .int (x1)), (2, .int (x2))] [] (S, M) (gX11_soon_20 S fu p0 x1 x2 M) := by
  induction fu with
  | zero => intro p0 x1 x2 M; exact AJ.none
  | succ n ih =>
    intro p0 x1 x2 M
    unfold gX11_soon_20
    refine aj_iload_n (2) dX11_soon_20 rfl rfl ?_
    refine aj_sipush (v := (200 : Int32)) dX11_soon_21 (by decide) ?_
    refine aj_icmp_ge (tgt := 57) dX11_soon_24 (by decide) (fun h => ?_) (fun h => ?_)
    · refine aj_bipush (v := (-2 : Int32)) dX11_soon_57 (by decide) ?_
      exact aj_iret dX11_soon_59 rfl rfl rfl
    refine aj_aload_n (0) dX11_soon_27 rfl rfl ?_
    refine aj_getR (TX := TX11) zc11 (by decide) rfl (Or.inl zg_569) dX11_soon_28 (fun r1 => ?_)
    refine aj_aload_n (0) dX11_soon_31 rfl rfl ?_
    refine aj_getR (TX := TX11) zc11 (by decide) rfl (Or.inl zg_566) dX11_soon_32 (fun r2 => ?_)
    refine rV_VM (as := [.ref (r2)]) (c_X0_dayGoes w S _ _ _) mv_X0_dayGoes rfl zg_980 (by decide) (Nat.le_of_ble_eq_true rfl) dX11_soon_35 (fun M3 => ?_)
    refine aj_aload_n (0) dX11_soon_38 rfl rfl ?_
    refine aj_getR (TX := TX11) zc11 (by decide) rfl (Or.inl zg_566) dX11_soon_39 (fun r4 => ?_)
    refine r_getI (TX := TX7) zc7 (by decide) rfl (Or.inr ⟨_, zn_357⟩) dX11_soon_42 (fun v5 => ?_)
    refine aj_iload_n (1) dX11_soon_45 rfl rfl ?_
    refine aj_icmp_ne (tgt := 51) dX11_soon_46 (by decide) (fun h => ?_) (fun h => ?_)
    · refine aj_iinc (j := 2) (v := (x2 + (1 : Int32))) (ls2 := [(2, .int ((x2 + (1 : Int32)))), (0, .ref (p0)), (1, .int (x1))]) dX11_soon_51 rfl rfl (Nat.le_of_ble_eq_true rfl) rfl ?_
      refine aj_goto (tgt := 20) dX11_soon_54 (by decide) ?_
      refine AJ.sub [1, 2, 0] rfl ?_
      exact ih (p0) (x1) ((x2 + (1 : Int32))) M3
    refine aj_iload_n (2) dX11_soon_49 rfl rfl ?_
    exact aj_iret dX11_soon_50 rfl rfl rfl
def gX11_soon (S : List (Nat × Nat)) (p0 : Nat) (x1 : Int32) (M : zM) : Option (Int32 × zM) := zgR S M (p0) 11 14 3 (fun r1 => zrc S (r1) 10 18 ((gX10_hasTrade S (r1) (x1) M).bind (fun v2 => (if v2 = 0 then some ((-1 : Int32), M) else zrc S (p0) 11 14 ((gX11_tryDays S (p0) ((0 : Int32)) M).bind (fun M3 => gX11_soon_20 S zfu (p0) (x1) ((1 : Int32)) M3))))))
set_option maxHeartbeats 4000000 in
set_option maxRecDepth 100000 in
theorem c_X11_soon (w : zWd) (S : List (Nat × Nat)) (p0 : Nat) (x1 : Int32) (M : zM) : CT (zfIM S) w 8 mX11_soon [.ref (p0), .int (x1)] (S, M) (gX11_soon S p0 x1 M) := by
  refine CT.of (by decide) (Nat.le_of_ble_eq_true rfl) ?_
  show AJ _ _ _ _ 0 [(0, .ref (p0)), (1, .int (x1))] [] _ _
  unfold gX11_soon
  refine aj_aload_n (0) dX11_soon_0 rfl rfl ?_
  refine aj_getR (TX := TX11) zc11 (by decide) rfl (Or.inl zg_563) dX11_soon_1 (fun r1 => ?_)
  refine aj_iload_n (1) dX11_soon_4 rfl rfl ?_
  refine rV_I (as := [.int (x1)]) (c_X10_hasTrade w S _ _ _) mv_X10_hasTrade rfl zg_846 (by decide) (Nat.le_of_ble_eq_true rfl) dX11_soon_5 (fun v2 => ?_)
  refine aj_if_ne (tgt := 13) dX11_soon_8 (by decide) (fun h => ?_) (fun h => ?_)
  · refine aj_aload_n (0) dX11_soon_13 rfl rfl ?_
    refine aj_iconst (v := (0 : Int32)) dX11_soon_14 (by decide) ?_
    refine rV_VM (as := [.int ((0 : Int32))]) (c_X11_tryDays w S _ _ _) mv_X11_tryDays rfl zg_972 (by decide) (Nat.le_of_ble_eq_true rfl) dX11_soon_15 (fun M3 => ?_)
    refine aj_iconst (v := (1 : Int32)) dX11_soon_18 (by decide) ?_
    refine aj_istore_n (ls2 := [(2, .int ((1 : Int32))), (0, .ref (p0)), (1, .int (x1))]) dX11_soon_19 rfl (Nat.le_of_ble_eq_true rfl) rfl ?_
    refine AJ.sub [1, 2, 0] rfl ?_
    exact t_X11_soon_20 w S zfu (p0) (x1) ((1 : Int32)) M3
  refine aj_iconst (v := (-1 : Int32)) dX11_soon_11 (by decide) ?_
  exact aj_iret dX11_soon_12 rfl rfl rfl
def gX11_out_25 (S : List (Nat × Nat)) : Nat → Nat → Int32 → Int32 → Int32 → Int32 → zM → Option (Int32 × zM)
  | 0 => fun _ _ _ _ _ _ => none
  | n + 1 => fun p0 x1 x2 x3 x4 M => (if (60 : Int32) ≤ x4 then some (x3, M) else zgR S M (p0) 11 14 9 (fun r1 => zgR S M (p0) 11 14 6 (fun r2 => zrc S (r1) 0 6 ((gX0_dayGoes S (r1) (r2) M).bind (fun M3 => zgR S M3 (p0) 11 14 6 (fun r4 => zgI S M3 (r4) 7 15 9 (fun v5 => (if v5 = x1 then (gX11_out_25 S   n) (p0) (x1) ((0 : Int32)) ((if x3 < (0 : Int32) then (0 : Int32) else x3)) ((x4 + (1 : Int32))) M3 else (gX11_out_25 S   n) (p0) (x1) ((x2 + (1 : Int32))) ((if x3 < (x2 + (1 : Int32)) then (x2 + (1 : Int32)) else x3)) ((x4 + (1 : Int32))) M3))))))))
set_option maxHeartbeats 4000000 in
set_option maxRecDepth 100000 in
theorem t_X11_out_25 (w : zWd) (S : List (Nat × Nat)) (fu : Nat) : ∀ (p0 : Nat) (x1 : Int32) (x2 : Int32) (x3 : Int32) (x4 : Int32) (M : zM), AJ (zfIM S) w 8 mX11_out 25 [(0, .ref (p0)), (1, .int (x1)), (2, .int (x2)), (3, .int (x3)), (4, .int (x4))] [] (S, M) (gX11_out_25 S fu p0 x1 x2 x3 x4 M) := by
  induction fu with
  | zero => intro p0 x1 x2 x3 x4 M; exact AJ.none
  | succ n ih =>
    intro p0 x1 x2 x3 x4 M
    unfold gX11_out_25
    refine aj_iload (4) dX11_out_25 rfl ?_
    refine aj_bipush (v := (60 : Int32)) dX11_out_27 (by decide) ?_
    refine aj_icmp_ge (tgt := 74) dX11_out_29 (by decide) (fun h => ?_) (fun h => ?_)
    · refine aj_iload_n (3) dX11_out_74 rfl rfl ?_
      exact aj_iret dX11_out_75 rfl rfl rfl
    refine aj_aload_n (0) dX11_out_32 rfl rfl ?_
    refine aj_getR (TX := TX11) zc11 (by decide) rfl (Or.inl zg_569) dX11_out_33 (fun r1 => ?_)
    refine aj_aload_n (0) dX11_out_36 rfl rfl ?_
    refine aj_getR (TX := TX11) zc11 (by decide) rfl (Or.inl zg_566) dX11_out_37 (fun r2 => ?_)
    refine rV_VM (as := [.ref (r2)]) (c_X0_dayGoes w S _ _ _) mv_X0_dayGoes rfl zg_980 (by decide) (Nat.le_of_ble_eq_true rfl) dX11_out_40 (fun M3 => ?_)
    refine aj_aload_n (0) dX11_out_43 rfl rfl ?_
    refine aj_getR (TX := TX11) zc11 (by decide) rfl (Or.inl zg_566) dX11_out_44 (fun r4 => ?_)
    refine r_getI (TX := TX7) zc7 (by decide) rfl (Or.inr ⟨_, zn_357⟩) dX11_out_47 (fun v5 => ?_)
    refine aj_iload_n (1) dX11_out_50 rfl rfl ?_
    refine aj_icmp_ne (tgt := 58) dX11_out_51 (by decide) (fun h => ?_) (fun h => ?_)
    · refine aj_iload_n (2) dX11_out_58 rfl rfl ?_
      refine aj_iconst (v := (1 : Int32)) dX11_out_59 (by decide) ?_
      refine aj_iadd dX11_out_60 ?_
      refine aj_istore_n (ls2 := [(2, .int ((x2 + (1 : Int32)))), (0, .ref (p0)), (1, .int (x1)), (3, .int (x3)), (4, .int (x4))]) dX11_out_61 rfl (Nat.le_of_ble_eq_true rfl) rfl ?_
      refine aj_iload_n (3) dX11_out_62 rfl rfl ?_
      refine aj_iload_n (0) dX11_out_63 rfl rfl ?_
      refine aj_mmax zg_1001 zg_40 zg_3 zg_41 (by decide) (Nat.le_of_ble_eq_true rfl) dX11_out_64 ?_
      refine aj_istore_n (ls2 := [(3, .int ((if x3 < (x2 + (1 : Int32)) then (x2 + (1 : Int32)) else x3))), (2, .int ((x2 + (1 : Int32)))), (0, .ref (p0)), (1, .int (x1)), (4, .int (x4))]) dX11_out_67 rfl (Nat.le_of_ble_eq_true rfl) rfl ?_
      refine aj_iinc (j := 4) (v := (x4 + (1 : Int32))) (ls2 := [(4, .int ((x4 + (1 : Int32)))), (3, .int ((if x3 < (x2 + (1 : Int32)) then (x2 + (1 : Int32)) else x3))), (2, .int ((x2 + (1 : Int32)))), (0, .ref (p0)), (1, .int (x1))]) dX11_out_68 rfl rfl (Nat.le_of_ble_eq_true rfl) rfl ?_
      refine aj_goto (tgt := 25) dX11_out_71 (by decide) ?_
      refine AJ.sub [3, 4, 2, 1, 0] rfl ?_
      exact ih (p0) (x1) ((x2 + (1 : Int32))) ((if x3 < (x2 + (1 : Int32)) then (x2 + (1 : Int32)) else x3)) ((x4 + (1 : Int32))) M3
    refine aj_iconst (v := (0 : Int32)) dX11_out_54 (by decide) ?_
    refine aj_goto (tgt := 61) dX11_out_55 (by decide) ?_
    refine aj_istore_n (ls2 := [(2, .int ((0 : Int32))), (0, .ref (p0)), (1, .int (x1)), (3, .int (x3)), (4, .int (x4))]) dX11_out_61 rfl (Nat.le_of_ble_eq_true rfl) rfl ?_
    refine aj_iload_n (3) dX11_out_62 rfl rfl ?_
    refine aj_iload_n (0) dX11_out_63 rfl rfl ?_
    refine aj_mmax zg_1001 zg_40 zg_3 zg_41 (by decide) (Nat.le_of_ble_eq_true rfl) dX11_out_64 ?_
    refine aj_istore_n (ls2 := [(3, .int ((if x3 < (0 : Int32) then (0 : Int32) else x3))), (2, .int ((0 : Int32))), (0, .ref (p0)), (1, .int (x1)), (4, .int (x4))]) dX11_out_67 rfl (Nat.le_of_ble_eq_true rfl) rfl ?_
    refine aj_iinc (j := 4) (v := (x4 + (1 : Int32))) (ls2 := [(4, .int ((x4 + (1 : Int32)))), (3, .int ((if x3 < (0 : Int32) then (0 : Int32) else x3))), (2, .int ((0 : Int32))), (0, .ref (p0)), (1, .int (x1))]) dX11_out_68 rfl rfl (Nat.le_of_ble_eq_true rfl) rfl ?_
    refine aj_goto (tgt := 25) dX11_out_71 (by decide) ?_
    refine AJ.sub [3, 4, 2, 1, 0] rfl ?_
    exact ih (p0) (x1) ((0 : Int32)) ((if x3 < (0 : Int32) then (0 : Int32) else x3)) ((x4 + (1 : Int32))) M3
def gX11_out (S : List (Nat × Nat)) (p0 : Nat) (x1 : Int32) (M : zM) : Option (Int32 × zM) := zgR S M (p0) 11 14 3 (fun r1 => zrc S (r1) 10 18 ((gX10_hasTrade S (r1) (x1) M).bind (fun v2 => (if v2 = 0 then some ((-1 : Int32), M) else zrc S (p0) 11 14 ((gX11_tryDays S (p0) ((0 : Int32)) M).bind (fun M3 => gX11_out_25 S zfu (p0) (x1) ((0 : Int32)) ((0 : Int32)) ((0 : Int32)) M3))))))
set_option maxHeartbeats 4000000 in
set_option maxRecDepth 100000 in
theorem c_X11_out (w : zWd) (S : List (Nat × Nat)) (p0 : Nat) (x1 : Int32) (M : zM) : CT (zfIM S) w 8 mX11_out [.ref (p0), .int (x1)] (S, M) (gX11_out S p0 x1 M) := by
  refine CT.of (by decide) (Nat.le_of_ble_eq_true rfl) ?_
  show AJ _ _ _ _ 0 [(0, .ref (p0)), (1, .int (x1))] [] _ _
  unfold gX11_out
  refine aj_aload_n (0) dX11_out_0 rfl rfl ?_
  refine aj_getR (TX := TX11) zc11 (by decide) rfl (Or.inl zg_563) dX11_out_1 (fun r1 => ?_)
  refine aj_iload_n (1) dX11_out_4 rfl rfl ?_
  refine rV_I (as := [.int (x1)]) (c_X10_hasTrade w S _ _ _) mv_X10_hasTrade rfl zg_846 (by decide) (Nat.le_of_ble_eq_true rfl) dX11_out_5 (fun v2 => ?_)
  refine aj_if_ne (tgt := 13) dX11_out_8 (by decide) (fun h => ?_) (fun h => ?_)
  · refine aj_aload_n (0) dX11_out_13 rfl rfl ?_
    refine aj_iconst (v := (0 : Int32)) dX11_out_14 (by decide) ?_
    refine rV_VM (as := [.int ((0 : Int32))]) (c_X11_tryDays w S _ _ _) mv_X11_tryDays rfl zg_972 (by decide) (Nat.le_of_ble_eq_true rfl) dX11_out_15 (fun M3 => ?_)
    refine aj_iconst (v := (0 : Int32)) dX11_out_18 (by decide) ?_
    refine aj_istore_n (ls2 := [(2, .int ((0 : Int32))), (0, .ref (p0)), (1, .int (x1))]) dX11_out_19 rfl (Nat.le_of_ble_eq_true rfl) rfl ?_
    refine aj_iconst (v := (0 : Int32)) dX11_out_20 (by decide) ?_
    refine aj_istore_n (ls2 := [(3, .int ((0 : Int32))), (2, .int ((0 : Int32))), (0, .ref (p0)), (1, .int (x1))]) dX11_out_21 rfl (Nat.le_of_ble_eq_true rfl) rfl ?_
    refine aj_iconst (v := (0 : Int32)) dX11_out_22 (by decide) ?_
    refine aj_istore (ls2 := [(4, .int ((0 : Int32))), (3, .int ((0 : Int32))), (2, .int ((0 : Int32))), (0, .ref (p0)), (1, .int (x1))]) dX11_out_23 (Nat.le_of_ble_eq_true rfl) rfl ?_
    refine AJ.sub [3, 4, 2, 1, 0] rfl ?_
    exact t_X11_out_25 w S zfu (p0) (x1) ((0 : Int32)) ((0 : Int32)) ((0 : Int32)) M3
  refine aj_iconst (v := (-1 : Int32)) dX11_out_11 (by decide) ?_
  exact aj_iret dX11_out_12 rfl rfl rfl
def gX11_missing (S : List (Nat × Nat)) (p0 : Nat) (x1 : Int32) (M : zM) : Option (Int32 × zM) := (gX11_isDays S (x1) M).bind (fun v1 => (if v1 = 0 then some ((-1 : Int32), M) else zrc S (p0) 11 14 ((gX11_tryDays S (p0) (x1) M).bind (fun M2 => zgR S M2 (p0) 11 14 6 (fun r3 => zgI S M2 (r3) 7 15 7 (fun v4 => zgR S M2 (p0) 11 14 5 (fun r5 => zgI S M2 (r5) 7 15 7 (fun v6 => some ((v4 - v6), M2)))))))))
set_option maxHeartbeats 4000000 in
set_option maxRecDepth 100000 in
theorem c_X11_missing (w : zWd) (S : List (Nat × Nat)) (p0 : Nat) (x1 : Int32) (M : zM) : CT (zfIM S) w 8 mX11_missing [.ref (p0), .int (x1)] (S, M) (gX11_missing S p0 x1 M) := by
  refine CT.of (by decide) (Nat.le_of_ble_eq_true rfl) ?_
  show AJ _ _ _ _ 0 [(0, .ref (p0)), (1, .int (x1))] [] _ _
  unfold gX11_missing
  refine aj_iload_n (1) dX11_missing_0 rfl rfl ?_
  refine rS_I (as := [.int (x1)]) (c_X11_isDays w S _ _) ms_X11_isDays rfl zg_924 (by decide) (Nat.le_of_ble_eq_true rfl) dX11_missing_1 (fun v1 => ?_)
  refine aj_if_ne (tgt := 9) dX11_missing_4 (by decide) (fun h => ?_) (fun h => ?_)
  · refine aj_aload_n (0) dX11_missing_9 rfl rfl ?_
    refine aj_iload_n (1) dX11_missing_10 rfl rfl ?_
    refine rV_VM (as := [.int (x1)]) (c_X11_tryDays w S _ _ _) mv_X11_tryDays rfl zg_972 (by decide) (Nat.le_of_ble_eq_true rfl) dX11_missing_11 (fun M2 => ?_)
    refine aj_aload_n (0) dX11_missing_14 rfl rfl ?_
    refine aj_getR (TX := TX11) zc11 (by decide) rfl (Or.inl zg_566) dX11_missing_15 (fun r3 => ?_)
    refine r_getI (TX := TX7) zc7 (by decide) rfl (Or.inr ⟨_, zn_352⟩) dX11_missing_18 (fun v4 => ?_)
    refine aj_aload_n (0) dX11_missing_21 rfl rfl ?_
    refine aj_getR (TX := TX11) zc11 (by decide) rfl (Or.inl zg_565) dX11_missing_22 (fun r5 => ?_)
    refine r_getI (TX := TX7) zc7 (by decide) rfl (Or.inr ⟨_, zn_352⟩) dX11_missing_25 (fun v6 => ?_)
    refine aj_isub dX11_missing_28 ?_
    exact aj_iret dX11_missing_29 rfl rfl rfl
  refine aj_iconst (v := (-1 : Int32)) dX11_missing_7 (by decide) ?_
  exact aj_iret dX11_missing_8 rfl rfl rfl
def gX11_plan (S : List (Nat × Nat)) (p0 : Nat) (x1 : Int32) (M : zM) : Option (Int32 × zM) := (if x1 < 0 then some ((-1 : Int32), M) else (if x1 ≤ (6 : Int32) then zgR S M (p0) 11 14 9 (fun r1 => zgR S M (p0) 11 14 3 (fun r2 => zrc S (r1) 0 6 ((gX0_goesOf S (r1) (r2) M).bind (fun M3 => zgR S M3 (p0) 11 14 13 (fun r4 => zgR S M3 (p0) 11 14 3 (fun r5 => zgR S M3 (p0) 11 14 5 (fun r6 => zgR S M3 (p0) 11 14 9 (fun r7 => zrc S (r4) 4 9 (zb2 (gX4_fewest S (r4) (r5) (r6) (r7) M3) (fun v8 M9 => (if v8 = (-2 : Int32) then some (v8, M9) else (if x1 = (6 : Int32) then some (v8, M9) else zgR S M9 (p0) 11 14 3 (fun r10 => zrc S (r10) 10 18 ((gX10_hasTrade S (r10) (x1) M9).bind (fun v11 => (if v11 = 0 then some ((-2 : Int32), M9) else zgR S M9 (p0) 11 14 13 (fun r12 => zgR S M9 (r12) 4 9 0 (fun r13 => zrc S (r13) 5 1 ((gX5_get S (r13) (x1) M9).bind (fun v14 => some (v14, M9))))))))))))))))))))) else some ((-1 : Int32), M)))
set_option maxHeartbeats 4000000 in
set_option maxRecDepth 100000 in
theorem c_X11_plan (w : zWd) (S : List (Nat × Nat)) (p0 : Nat) (x1 : Int32) (M : zM) : CT (zfIM S) w 17 mX11_plan [.ref (p0), .int (x1)] (S, M) (gX11_plan S p0 x1 M) := by
  refine CT.of (by decide) (Nat.le_of_ble_eq_true rfl) ?_
  show AJ _ _ _ _ 0 [(0, .ref (p0)), (1, .int (x1))] [] _ _
  unfold gX11_plan
  refine aj_iload_n (1) dX11_plan_0 rfl rfl ?_
  refine aj_if_lt (tgt := 10) dX11_plan_1 (by decide) (fun h => ?_) (fun h => ?_)
  · refine aj_iconst (v := (-1 : Int32)) dX11_plan_10 (by decide) ?_
    exact aj_iret dX11_plan_11 rfl rfl rfl
  refine aj_iload_n (1) dX11_plan_4 rfl rfl ?_
  refine aj_bipush (v := (6 : Int32)) dX11_plan_5 (by decide) ?_
  refine aj_icmp_le (tgt := 12) dX11_plan_7 (by decide) (fun h => ?_) (fun h => ?_)
  · refine aj_aload_n (0) dX11_plan_12 rfl rfl ?_
    refine aj_getR (TX := TX11) zc11 (by decide) rfl (Or.inl zg_569) dX11_plan_13 (fun r1 => ?_)
    refine aj_aload_n (0) dX11_plan_16 rfl rfl ?_
    refine aj_getR (TX := TX11) zc11 (by decide) rfl (Or.inl zg_563) dX11_plan_17 (fun r2 => ?_)
    refine rV_VM (as := [.ref (r2)]) (c_X0_goesOf w S _ _ _) mv_X0_goesOf rfl zg_851 (by decide) (Nat.le_of_ble_eq_true rfl) dX11_plan_20 (fun M3 => ?_)
    refine aj_aload_n (0) dX11_plan_23 rfl rfl ?_
    refine aj_getR (TX := TX11) zc11 (by decide) rfl (Or.inl zg_573) dX11_plan_24 (fun r4 => ?_)
    refine aj_aload_n (0) dX11_plan_27 rfl rfl ?_
    refine aj_getR (TX := TX11) zc11 (by decide) rfl (Or.inl zg_563) dX11_plan_28 (fun r5 => ?_)
    refine aj_aload_n (0) dX11_plan_31 rfl rfl ?_
    refine aj_getR (TX := TX11) zc11 (by decide) rfl (Or.inl zg_565) dX11_plan_32 (fun r6 => ?_)
    refine aj_aload_n (0) dX11_plan_35 rfl rfl ?_
    refine aj_getR (TX := TX11) zc11 (by decide) rfl (Or.inl zg_569) dX11_plan_36 (fun r7 => ?_)
    refine rV_IM (as := [.ref (r5), .ref (r6), .ref (r7)]) (c_X4_fewest w S _ _ _ _ _) mv_X4_fewest rfl zg_1010 (by decide) (Nat.le_of_ble_eq_true rfl) dX11_plan_39 (fun v8 M9 => ?_)
    refine aj_istore_n (ls2 := [(2, .int (v8)), (0, .ref (p0)), (1, .int (x1))]) dX11_plan_42 rfl (Nat.le_of_ble_eq_true rfl) rfl ?_
    refine aj_iload_n (0) dX11_plan_43 rfl rfl ?_
    refine aj_bipush (v := (-2 : Int32)) dX11_plan_44 (by decide) ?_
    refine aj_icmp_eq (tgt := 55) dX11_plan_46 (by decide) (fun h => ?_) (fun h => ?_)
    · refine aj_iload_n (0) dX11_plan_55 rfl rfl ?_
      exact aj_iret dX11_plan_56 rfl rfl rfl
    refine aj_iload_n (2) dX11_plan_49 rfl rfl ?_
    refine aj_bipush (v := (6 : Int32)) dX11_plan_50 (by decide) ?_
    refine aj_icmp_ne (tgt := 57) dX11_plan_52 (by decide) (fun h => ?_) (fun h => ?_)
    · refine aj_aload_n (1) dX11_plan_57 rfl rfl ?_
      refine aj_getR (TX := TX11) zc11 (by decide) rfl (Or.inl zg_563) dX11_plan_58 (fun r10 => ?_)
      refine aj_iload_n (2) dX11_plan_61 rfl rfl ?_
      refine rV_I (as := [.int (x1)]) (c_X10_hasTrade w S _ _ _) mv_X10_hasTrade rfl zg_846 (by decide) (Nat.le_of_ble_eq_true rfl) dX11_plan_62 (fun v11 => ?_)
      refine aj_if_eq (tgt := 82) dX11_plan_65 (by decide) (fun h => ?_) (fun h => ?_)
      · refine aj_bipush (v := (-2 : Int32)) dX11_plan_82 (by decide) ?_
        exact aj_iret dX11_plan_84 rfl rfl rfl
      refine aj_aload_n (1) dX11_plan_68 rfl rfl ?_
      refine aj_getR (TX := TX11) zc11 (by decide) rfl (Or.inl zg_573) dX11_plan_69 (fun r12 => ?_)
      refine aj_getR (TX := TX4) zc4 (by decide) rfl (Or.inr ⟨_, zn_530⟩) dX11_plan_72 (fun r13 => ?_)
      refine aj_iload_n (2) dX11_plan_75 rfl rfl ?_
      refine rV_I (as := [.int (x1)]) (c_X5_get w S _ _ _) mv_X5_get rfl zg_833 (by decide) (Nat.le_of_ble_eq_true rfl) dX11_plan_76 (fun v14 => ?_)
      refine aj_goto (tgt := 84) dX11_plan_79 (by decide) ?_
      exact aj_iret dX11_plan_84 rfl rfl rfl
    refine aj_iload_n (0) dX11_plan_55 rfl rfl ?_
    exact aj_iret dX11_plan_56 rfl rfl rfl
  refine aj_iconst (v := (-1 : Int32)) dX11_plan_10 (by decide) ?_
  exact aj_iret dX11_plan_11 rfl rfl rfl
def gX11_best_47 (S : List (Nat × Nat)) (p0 : Nat) (x1 : Int32) (x2 : Int32) (M : zM) : Option (Int32 × zM) := zgR S M (p0) 11 14 9 (fun r1 => zgR S M (p0) 11 14 3 (fun r2 => zrc S (r1) 0 6 ((gX0_goesOf S (r1) (r2) M).bind (fun M3 => zgR S M3 (p0) 11 14 13 (fun r4 => zgR S M3 (p0) 11 14 3 (fun r5 => zgR S M3 (p0) 11 14 5 (fun r6 => zrc S (r4) 4 9 ((gX4_begin S (r4) (r5) (r6) (x1) M3).bind (fun M7 => zgR S M7 (p0) 11 14 13 (fun r8 => zgR S M7 (p0) 11 14 9 (fun r9 => (gX4_seek S 12 (r8) ((0 : Int32)) (r9) M7).bind (fun M10 => (if x2 = (6 : Int32) then zgR S M10 (p0) 11 14 13 (fun r14 => zgI S M10 (r14) 4 9 6 (fun v15 => some (v15, M10))) else zgR S M10 (p0) 11 14 13 (fun r11 => zgR S M10 (r11) 4 9 2 (fun r12 => zrc S (r12) 5 1 ((gX5_get S (r12) (x2) M10).bind (fun v13 => some (v13, M10))))))))))))))))))
set_option maxHeartbeats 4000000 in
set_option maxRecDepth 100000 in
theorem t_X11_best_47 (w : zWd) (S : List (Nat × Nat)) (p0 : Nat) (x1 : Int32) (x2 : Int32) (M : zM) : AJ (zfIM S) w 20 mX11_best 47 [(0, .ref (p0)), (1, .int (x1)), (2, .int (x2))] [] (S, M) (gX11_best_47 S p0 x1 x2 M) := by
  unfold gX11_best_47
  refine aj_aload_n (0) dX11_best_47 rfl rfl ?_
  refine aj_getR (TX := TX11) zc11 (by decide) rfl (Or.inl zg_569) dX11_best_48 (fun r1 => ?_)
  refine aj_aload_n (0) dX11_best_51 rfl rfl ?_
  refine aj_getR (TX := TX11) zc11 (by decide) rfl (Or.inl zg_563) dX11_best_52 (fun r2 => ?_)
  refine rV_VM (as := [.ref (r2)]) (c_X0_goesOf w S _ _ _) mv_X0_goesOf rfl zg_851 (by decide) (Nat.le_of_ble_eq_true rfl) dX11_best_55 (fun M3 => ?_)
  refine aj_aload_n (0) dX11_best_58 rfl rfl ?_
  refine aj_getR (TX := TX11) zc11 (by decide) rfl (Or.inl zg_573) dX11_best_59 (fun r4 => ?_)
  refine aj_aload_n (0) dX11_best_62 rfl rfl ?_
  refine aj_getR (TX := TX11) zc11 (by decide) rfl (Or.inl zg_563) dX11_best_63 (fun r5 => ?_)
  refine aj_aload_n (0) dX11_best_66 rfl rfl ?_
  refine aj_getR (TX := TX11) zc11 (by decide) rfl (Or.inl zg_565) dX11_best_67 (fun r6 => ?_)
  refine aj_iload_n (1) dX11_best_70 rfl rfl ?_
  refine rV_VM (as := [.ref (r5), .ref (r6), .int (x1)]) (c_X4_begin w S _ _ _ _ _) mv_X4_begin rfl zg_1028 (by decide) (Nat.le_of_ble_eq_true rfl) dX11_best_71 (fun M7 => ?_)
  refine aj_aload_n (0) dX11_best_74 rfl rfl ?_
  refine aj_getR (TX := TX11) zc11 (by decide) rfl (Or.inl zg_573) dX11_best_75 (fun r8 => ?_)
  refine aj_iconst (v := (0 : Int32)) dX11_best_78 (by decide) ?_
  refine aj_aload_n (0) dX11_best_79 rfl rfl ?_
  refine aj_getR (TX := TX11) zc11 (by decide) rfl (Or.inl zg_569) dX11_best_80 (fun r9 => ?_)
  refine rSN_VM (as := [.ref (r8), .int ((0 : Int32)), .ref (r9)]) (c_X4_seek w S 12 _ _ _ _) ms_X4_seek rfl (Or.inr ⟨_, zn_1037⟩) (by decide) (Nat.le_of_ble_eq_true rfl) dX11_best_83 (fun M10 => ?_)
  refine aj_iload_n (2) dX11_best_86 rfl rfl ?_
  refine aj_bipush (v := (6 : Int32)) dX11_best_87 (by decide) ?_
  refine aj_icmp_ne (tgt := 102) dX11_best_89 (by decide) (fun h => ?_) (fun h => ?_)
  · refine aj_aload_n (0) dX11_best_102 rfl rfl ?_
    refine aj_getR (TX := TX11) zc11 (by decide) rfl (Or.inl zg_573) dX11_best_103 (fun r11 => ?_)
    refine aj_getR (TX := TX4) zc4 (by decide) rfl (Or.inr ⟨_, zn_533⟩) dX11_best_106 (fun r12 => ?_)
    refine aj_iload_n (2) dX11_best_109 rfl rfl ?_
    refine rV_I (as := [.int (x2)]) (c_X5_get w S _ _ _) mv_X5_get rfl zg_833 (by decide) (Nat.le_of_ble_eq_true rfl) dX11_best_110 (fun v13 => ?_)
    exact aj_iret dX11_best_113 rfl rfl rfl
  refine aj_aload_n (0) dX11_best_92 rfl rfl ?_
  refine aj_getR (TX := TX11) zc11 (by decide) rfl (Or.inl zg_573) dX11_best_93 (fun r14 => ?_)
  refine r_getI (TX := TX4) zc4 (by decide) rfl (Or.inr ⟨_, zn_538⟩) dX11_best_96 (fun v15 => ?_)
  refine aj_goto (tgt := 113) dX11_best_99 (by decide) ?_
  exact aj_iret dX11_best_113 rfl rfl rfl
def gX11_best (S : List (Nat × Nat)) (p0 : Nat) (x1 : Int32) (x2 : Int32) (M : zM) : Option (Int32 × zM) := (if x1 < (1 : Int32) then some ((-1 : Int32), M) else (if (6 : Int32) < x1 then some ((-1 : Int32), M) else (if x2 < 0 then some ((-1 : Int32), M) else (if x2 ≤ (6 : Int32) then zgR S M (p0) 11 14 3 (fun r1 => zgI S M (r1) 10 18 1 (fun v2 => (if v2 = 0 then some ((-2 : Int32), M) else (if x2 < x1 then gX11_best_47 S (p0) (x1) (x2) M else (if (6 : Int32) ≤ x2 then gX11_best_47 S (p0) (x1) (x2) M else some ((-2 : Int32), M)))))) else some ((-1 : Int32), M)))))
set_option maxHeartbeats 4000000 in
set_option maxRecDepth 100000 in
theorem c_X11_best (w : zWd) (S : List (Nat × Nat)) (p0 : Nat) (x1 : Int32) (x2 : Int32) (M : zM) : CT (zfIM S) w 20 mX11_best [.ref (p0), .int (x1), .int (x2)] (S, M) (gX11_best S p0 x1 x2 M) := by
  refine CT.of (by decide) (Nat.le_of_ble_eq_true rfl) ?_
  show AJ _ _ _ _ 0 [(0, .ref (p0)), (1, .int (x1)), (2, .int (x2))] [] _ _
  unfold gX11_best
  refine aj_iload_n (1) dX11_best_0 rfl rfl ?_
  refine aj_iconst (v := (1 : Int32)) dX11_best_1 (by decide) ?_
  refine aj_icmp_lt (tgt := 21) dX11_best_2 (by decide) (fun h => ?_) (fun h => ?_)
  · refine aj_iconst (v := (-1 : Int32)) dX11_best_21 (by decide) ?_
    exact aj_iret dX11_best_22 rfl rfl rfl
  refine aj_iload_n (1) dX11_best_5 rfl rfl ?_
  refine aj_bipush (v := (6 : Int32)) dX11_best_6 (by decide) ?_
  refine aj_icmp_gt (tgt := 21) dX11_best_8 (by decide) (fun h => ?_) (fun h => ?_)
  · refine aj_iconst (v := (-1 : Int32)) dX11_best_21 (by decide) ?_
    exact aj_iret dX11_best_22 rfl rfl rfl
  refine aj_iload_n (2) dX11_best_11 rfl rfl ?_
  refine aj_if_lt (tgt := 21) dX11_best_12 (by decide) (fun h => ?_) (fun h => ?_)
  · refine aj_iconst (v := (-1 : Int32)) dX11_best_21 (by decide) ?_
    exact aj_iret dX11_best_22 rfl rfl rfl
  refine aj_iload_n (2) dX11_best_15 rfl rfl ?_
  refine aj_bipush (v := (6 : Int32)) dX11_best_16 (by decide) ?_
  refine aj_icmp_le (tgt := 23) dX11_best_18 (by decide) (fun h => ?_) (fun h => ?_)
  · refine aj_aload_n (0) dX11_best_23 rfl rfl ?_
    refine aj_getR (TX := TX11) zc11 (by decide) rfl (Or.inl zg_563) dX11_best_24 (fun r1 => ?_)
    refine r_getI (TX := TX10) zc10 (by decide) rfl (Or.inr ⟨_, zn_187⟩) dX11_best_27 (fun v2 => ?_)
    refine aj_if_eq (tgt := 44) dX11_best_30 (by decide) (fun h => ?_) (fun h => ?_)
    · refine aj_bipush (v := (-2 : Int32)) dX11_best_44 (by decide) ?_
      exact aj_iret dX11_best_46 rfl rfl rfl
    refine aj_iload_n (2) dX11_best_33 rfl rfl ?_
    refine aj_iload_n (1) dX11_best_34 rfl rfl ?_
    refine aj_icmp_lt (tgt := 47) dX11_best_35 (by decide) (fun h => ?_) (fun h => ?_)
    · refine AJ.sub [0, 1, 2] rfl ?_
      exact t_X11_best_47 w S (p0) (x1) (x2) M
    refine aj_iload_n (2) dX11_best_38 rfl rfl ?_
    refine aj_bipush (v := (6 : Int32)) dX11_best_39 (by decide) ?_
    refine aj_icmp_ge (tgt := 47) dX11_best_41 (by decide) (fun h => ?_) (fun h => ?_)
    · refine AJ.sub [0, 1, 2] rfl ?_
      exact t_X11_best_47 w S (p0) (x1) (x2) M
    refine aj_bipush (v := (-2 : Int32)) dX11_best_44 (by decide) ?_
    exact aj_iret dX11_best_46 rfl rfl rfl
  refine aj_iconst (v := (-1 : Int32)) dX11_best_21 (by decide) ?_
  exact aj_iret dX11_best_22 rfl rfl rfl
def gX11_fair (S : List (Nat × Nat)) (p0 : Nat) (x1 : Int32) (M : zM) : Option (Int32 × zM) := zgR S M (p0) 11 14 5 (fun r1 => zrc S (r1) 7 15 ((gX7_hasPlace S (r1) (x1) M).bind (fun v2 => (if v2 = 0 then some ((-1 : Int32), M) else zgR S M (p0) 11 14 12 (fun r3 => zgR S M (p0) 11 14 3 (fun r4 => zgR S M (p0) 11 14 5 (fun r5 => zrc S (r3) 6 3 ((gX6_share S (r3) (r4) (r5) M).bind (fun M6 => zgR S M6 (p0) 11 14 12 (fun r7 => zgR S M6 (r7) 6 3 0 (fun r8 => zrc S (r8) 5 1 ((gX5_get S (r8) (x1) M6).bind (fun v9 => some (v9, M6))))))))))))))
set_option maxHeartbeats 4000000 in
set_option maxRecDepth 100000 in
theorem c_X11_fair (w : zWd) (S : List (Nat × Nat)) (p0 : Nat) (x1 : Int32) (M : zM) : CT (zfIM S) w 5 mX11_fair [.ref (p0), .int (x1)] (S, M) (gX11_fair S p0 x1 M) := by
  refine CT.of (by decide) (Nat.le_of_ble_eq_true rfl) ?_
  show AJ _ _ _ _ 0 [(0, .ref (p0)), (1, .int (x1))] [] _ _
  unfold gX11_fair
  refine aj_aload_n (0) dX11_fair_0 rfl rfl ?_
  refine aj_getR (TX := TX11) zc11 (by decide) rfl (Or.inl zg_565) dX11_fair_1 (fun r1 => ?_)
  refine aj_iload_n (1) dX11_fair_4 rfl rfl ?_
  refine rV_I (as := [.int (x1)]) (c_X7_hasPlace w S _ _ _) mv_X7_hasPlace rfl zg_829 (by decide) (Nat.le_of_ble_eq_true rfl) dX11_fair_5 (fun v2 => ?_)
  refine aj_if_ne (tgt := 13) dX11_fair_8 (by decide) (fun h => ?_) (fun h => ?_)
  · refine aj_aload_n (0) dX11_fair_13 rfl rfl ?_
    refine aj_getR (TX := TX11) zc11 (by decide) rfl (Or.inl zg_572) dX11_fair_14 (fun r3 => ?_)
    refine aj_aload_n (0) dX11_fair_17 rfl rfl ?_
    refine aj_getR (TX := TX11) zc11 (by decide) rfl (Or.inl zg_563) dX11_fair_18 (fun r4 => ?_)
    refine aj_aload_n (0) dX11_fair_21 rfl rfl ?_
    refine aj_getR (TX := TX11) zc11 (by decide) rfl (Or.inl zg_565) dX11_fair_22 (fun r5 => ?_)
    refine rV_VM (as := [.ref (r4), .ref (r5)]) (c_X6_share w S _ _ _ _) mv_X6_share rfl zg_1051 (by decide) (Nat.le_of_ble_eq_true rfl) dX11_fair_25 (fun M6 => ?_)
    refine aj_aload_n (0) dX11_fair_28 rfl rfl ?_
    refine aj_getR (TX := TX11) zc11 (by decide) rfl (Or.inl zg_572) dX11_fair_29 (fun r7 => ?_)
    refine aj_getR (TX := TX6) zc6 (by decide) rfl (Or.inr ⟨_, zn_506⟩) dX11_fair_32 (fun r8 => ?_)
    refine aj_iload_n (1) dX11_fair_35 rfl rfl ?_
    refine rV_I (as := [.int (x1)]) (c_X5_get w S _ _ _) mv_X5_get rfl zg_833 (by decide) (Nat.le_of_ble_eq_true rfl) dX11_fair_36 (fun v9 => ?_)
    exact aj_iret dX11_fair_39 rfl rfl rfl
  refine aj_iconst (v := (-1 : Int32)) dX11_fair_11 (by decide) ?_
  exact aj_iret dX11_fair_12 rfl rfl rfl
def gX11_pairs (S : List (Nat × Nat)) (p0 : Nat) (M : zM) : Option Int32 := zgR S M (p0) 11 14 12 (fun r1 => zgR S M (p0) 11 14 3 (fun r2 => zgR S M (p0) 11 14 5 (fun r3 => zrc S (r1) 6 3 ((gX6_changers S (r1) (r2) (r3) M).bind (fun v4 => some (v4))))))
set_option maxHeartbeats 4000000 in
set_option maxRecDepth 100000 in
theorem c_X11_pairs (w : zWd) (S : List (Nat × Nat)) (p0 : Nat) (M : zM) : CT (zfI S M) w 4 mX11_pairs [.ref (p0)] (S, M) (gX11_pairs S p0 M) := by
  refine CT.of (by decide) (Nat.le_of_ble_eq_true rfl) ?_
  show AJ _ _ _ _ 0 [(0, .ref (p0))] [] _ _
  unfold gX11_pairs
  refine aj_aload_n (0) dX11_pairs_0 rfl rfl ?_
  refine aj_getR (TX := TX11) zc11 (by decide) rfl (Or.inl zg_572) dX11_pairs_1 (fun r1 => ?_)
  refine aj_aload_n (0) dX11_pairs_4 rfl rfl ?_
  refine aj_getR (TX := TX11) zc11 (by decide) rfl (Or.inl zg_563) dX11_pairs_5 (fun r2 => ?_)
  refine aj_aload_n (0) dX11_pairs_8 rfl rfl ?_
  refine aj_getR (TX := TX11) zc11 (by decide) rfl (Or.inl zg_565) dX11_pairs_9 (fun r3 => ?_)
  refine rV_I (as := [.ref (r2), .ref (r3)]) (c_X6_changers w S _ _ _ _) mv_X6_changers rfl zg_1080 (by decide) (Nat.le_of_ble_eq_true rfl) dX11_pairs_12 (fun v4 => ?_)
  exact aj_iret dX11_pairs_15 rfl rfl rfl
def gX11_power (S : List (Nat × Nat)) (p0 : Nat) (x1 : Int32) (M : zM) : Option (Int32 × zM) := zgR S M (p0) 11 14 3 (fun r1 => zrc S (r1) 10 18 ((gX10_hasTrade S (r1) (x1) M).bind (fun v2 => (if v2 = 0 then some ((-1 : Int32), M) else zgR S M (p0) 11 14 12 (fun r3 => zgR S M (p0) 11 14 3 (fun r4 => zgR S M (p0) 11 14 5 (fun r5 => zrc S (r3) 6 3 ((gX6_weigh S (r3) (r4) (r5) M).bind (fun M6 => zgR S M6 (p0) 11 14 12 (fun r7 => zgR S M6 (p0) 11 14 3 (fun r8 => zgI S M6 (r8) 10 18 1 (fun v9 => zgR S M6 (p0) 11 14 5 (fun r10 => zgI S M6 (r10) 7 15 10 (fun v11 => zrc S (r7) 6 3 ((gX6_decides S (r7) (x1) (v9) (v11) M6).bind (fun v12 => some (v12, M6)))))))))))))))))
set_option maxHeartbeats 4000000 in
set_option maxRecDepth 100000 in
theorem c_X11_power (w : zWd) (S : List (Nat × Nat)) (p0 : Nat) (x1 : Int32) (M : zM) : CT (zfIM S) w 4 mX11_power [.ref (p0), .int (x1)] (S, M) (gX11_power S p0 x1 M) := by
  refine CT.of (by decide) (Nat.le_of_ble_eq_true rfl) ?_
  show AJ _ _ _ _ 0 [(0, .ref (p0)), (1, .int (x1))] [] _ _
  unfold gX11_power
  refine aj_aload_n (0) dX11_power_0 rfl rfl ?_
  refine aj_getR (TX := TX11) zc11 (by decide) rfl (Or.inl zg_563) dX11_power_1 (fun r1 => ?_)
  refine aj_iload_n (1) dX11_power_4 rfl rfl ?_
  refine rV_I (as := [.int (x1)]) (c_X10_hasTrade w S _ _ _) mv_X10_hasTrade rfl zg_846 (by decide) (Nat.le_of_ble_eq_true rfl) dX11_power_5 (fun v2 => ?_)
  refine aj_if_ne (tgt := 13) dX11_power_8 (by decide) (fun h => ?_) (fun h => ?_)
  · refine aj_aload_n (0) dX11_power_13 rfl rfl ?_
    refine aj_getR (TX := TX11) zc11 (by decide) rfl (Or.inl zg_572) dX11_power_14 (fun r3 => ?_)
    refine aj_aload_n (0) dX11_power_17 rfl rfl ?_
    refine aj_getR (TX := TX11) zc11 (by decide) rfl (Or.inl zg_563) dX11_power_18 (fun r4 => ?_)
    refine aj_aload_n (0) dX11_power_21 rfl rfl ?_
    refine aj_getR (TX := TX11) zc11 (by decide) rfl (Or.inl zg_565) dX11_power_22 (fun r5 => ?_)
    refine rV_VM (as := [.ref (r4), .ref (r5)]) (c_X6_weigh w S _ _ _ _) mv_X6_weigh rfl zg_1088 (by decide) (Nat.le_of_ble_eq_true rfl) dX11_power_25 (fun M6 => ?_)
    refine aj_aload_n (0) dX11_power_28 rfl rfl ?_
    refine aj_getR (TX := TX11) zc11 (by decide) rfl (Or.inl zg_572) dX11_power_29 (fun r7 => ?_)
    refine aj_iload_n (1) dX11_power_32 rfl rfl ?_
    refine aj_aload_n (0) dX11_power_33 rfl rfl ?_
    refine aj_getR (TX := TX11) zc11 (by decide) rfl (Or.inl zg_563) dX11_power_34 (fun r8 => ?_)
    refine r_getI (TX := TX10) zc10 (by decide) rfl (Or.inr ⟨_, zn_187⟩) dX11_power_37 (fun v9 => ?_)
    refine aj_aload_n (0) dX11_power_40 rfl rfl ?_
    refine aj_getR (TX := TX11) zc11 (by decide) rfl (Or.inl zg_565) dX11_power_41 (fun r10 => ?_)
    refine r_getI (TX := TX7) zc7 (by decide) rfl (Or.inr ⟨_, zn_361⟩) dX11_power_44 (fun v11 => ?_)
    refine rV_I (as := [.int (x1), .int (v9), .int (v11)]) (c_X6_decides w S _ _ _ _ _) mv_X6_decides rfl zg_1096 (by decide) (Nat.le_of_ble_eq_true rfl) dX11_power_47 (fun v12 => ?_)
    exact aj_iret dX11_power_50 rfl rfl rfl
  refine aj_iconst (v := (-1 : Int32)) dX11_power_11 (by decide) ?_
  exact aj_iret dX11_power_12 rfl rfl rfl
def gX11_even (S : List (Nat × Nat)) (p0 : Nat) (x1 : Int32) (M : zM) : Option (Int32 × zM) := (if x1 < 0 then some ((-1 : Int32), M) else zgR S M (p0) 11 14 3 (fun r1 => zgI S M (r1) 10 18 1 (fun v2 => (if (x1 >>> (v2 &&& 31)) = 0 then zgR S M (p0) 11 14 12 (fun r3 => zgR S M (p0) 11 14 3 (fun r4 => zgR S M (p0) 11 14 5 (fun r5 => zrc S (r3) 6 3 ((gX6_weigh S (r3) (r4) (r5) M).bind (fun M6 => zgR S M6 (p0) 11 14 12 (fun r7 => zrc S (r7) 6 3 ((gX6_canHalve S (r7) (x1) M6).bind (fun v8 => (if v8 = 0 then some ((0 : Int32), M6) else some ((1 : Int32), M6)))))))))) else some ((-1 : Int32), M)))))
set_option maxHeartbeats 4000000 in
set_option maxRecDepth 100000 in
theorem c_X11_even (w : zWd) (S : List (Nat × Nat)) (p0 : Nat) (x1 : Int32) (M : zM) : CT (zfIM S) w 4 mX11_even [.ref (p0), .int (x1)] (S, M) (gX11_even S p0 x1 M) := by
  refine CT.of (by decide) (Nat.le_of_ble_eq_true rfl) ?_
  show AJ _ _ _ _ 0 [(0, .ref (p0)), (1, .int (x1))] [] _ _
  unfold gX11_even
  refine aj_iload_n (1) dX11_even_0 rfl rfl ?_
  refine aj_if_lt (tgt := 16) dX11_even_1 (by decide) (fun h => ?_) (fun h => ?_)
  · refine aj_iconst (v := (-1 : Int32)) dX11_even_16 (by decide) ?_
    exact aj_iret dX11_even_17 rfl rfl rfl
  refine aj_iload_n (1) dX11_even_4 rfl rfl ?_
  refine aj_aload_n (0) dX11_even_5 rfl rfl ?_
  refine aj_getR (TX := TX11) zc11 (by decide) rfl (Or.inl zg_563) dX11_even_6 (fun r1 => ?_)
  refine r_getI (TX := TX10) zc10 (by decide) rfl (Or.inr ⟨_, zn_187⟩) dX11_even_9 (fun v2 => ?_)
  refine aj_ishr dX11_even_12 ?_
  refine aj_if_eq (tgt := 18) dX11_even_13 (by decide) (fun h => ?_) (fun h => ?_)
  · refine aj_aload_n (0) dX11_even_18 rfl rfl ?_
    refine aj_getR (TX := TX11) zc11 (by decide) rfl (Or.inl zg_572) dX11_even_19 (fun r3 => ?_)
    refine aj_aload_n (0) dX11_even_22 rfl rfl ?_
    refine aj_getR (TX := TX11) zc11 (by decide) rfl (Or.inl zg_563) dX11_even_23 (fun r4 => ?_)
    refine aj_aload_n (0) dX11_even_26 rfl rfl ?_
    refine aj_getR (TX := TX11) zc11 (by decide) rfl (Or.inl zg_565) dX11_even_27 (fun r5 => ?_)
    refine rV_VM (as := [.ref (r4), .ref (r5)]) (c_X6_weigh w S _ _ _ _) mv_X6_weigh rfl zg_1088 (by decide) (Nat.le_of_ble_eq_true rfl) dX11_even_30 (fun M6 => ?_)
    refine aj_aload_n (0) dX11_even_33 rfl rfl ?_
    refine aj_getR (TX := TX11) zc11 (by decide) rfl (Or.inl zg_572) dX11_even_34 (fun r7 => ?_)
    refine aj_iload_n (1) dX11_even_37 rfl rfl ?_
    refine rV_I (as := [.int (x1)]) (c_X6_canHalve w S _ _ _) mv_X6_canHalve rfl zg_1108 (by decide) (Nat.le_of_ble_eq_true rfl) dX11_even_38 (fun v8 => ?_)
    refine aj_if_eq (tgt := 48) dX11_even_41 (by decide) (fun h => ?_) (fun h => ?_)
    · refine aj_iconst (v := (0 : Int32)) dX11_even_48 (by decide) ?_
      exact aj_iret dX11_even_49 rfl rfl rfl
    refine aj_iconst (v := (1 : Int32)) dX11_even_44 (by decide) ?_
    refine aj_goto (tgt := 49) dX11_even_45 (by decide) ?_
    exact aj_iret dX11_even_49 rfl rfl rfl
  refine aj_iconst (v := (-1 : Int32)) dX11_even_16 (by decide) ?_
  exact aj_iret dX11_even_17 rfl rfl rfl
def gX11_rare_52 (S : List (Nat × Nat)) (k5 : Nat → Int32 → Int32 → zM → Option Int32) (p0 : Nat) (x1 : Int32) (x2 : Int32) (x0s : Int32) (M : zM) : Option Int32 := (if x0s = 0 then k5 (p0) (x1) ((x2 + (1 : Int32))) M else zgR S M (p0) 11 14 5 (fun r1 => zrc S (r1) 7 15 ((gX7_placesOf S (r1) (x2) M).bind (fun v2 => (if v2 ≤ 0 then k5 (p0) (x1) ((x2 + (1 : Int32))) M else k5 (p0) (x2) ((x2 + (1 : Int32))) M)))))
set_option maxHeartbeats 4000000 in
set_option maxRecDepth 100000 in
theorem t_X11_rare_52 (w : zWd) (S : List (Nat × Nat)) (k5 : Nat → Int32 → Int32 → zM → Option Int32) (hk5 : ∀ (p0 : Nat) (x1 : Int32) (x2 : Int32) (M : zM), AJ (zfI S M) w 3 mX11_rare 5 [(0, .ref (p0)), (1, .int (x1)), (2, .int (x2))] [] (S, M) (k5 p0 x1 x2 M)) (p0 : Nat) (x1 : Int32) (x2 : Int32) (x0s : Int32) (M : zM) : AJ (zfI S M) w 3 mX11_rare 52 [(0, .ref (p0)), (1, .int (x1)), (2, .int (x2))] [.int (x0s)] (S, M) (gX11_rare_52 S k5 p0 x1 x2 x0s M) := by
  unfold gX11_rare_52
  refine aj_istore_n (ls2 := [(3, .int (x0s)), (0, .ref (p0)), (1, .int (x1)), (2, .int (x2))]) dX11_rare_52 rfl (Nat.le_of_ble_eq_true rfl) rfl ?_
  refine aj_iload_n (0) dX11_rare_53 rfl rfl ?_
  refine aj_if_eq (tgt := 70) dX11_rare_54 (by decide) (fun h => ?_) (fun h => ?_)
  · refine aj_iinc (j := 3) (v := (x2 + (1 : Int32))) (ls2 := [(2, .int ((x2 + (1 : Int32)))), (3, .int (x0s)), (0, .ref (p0)), (1, .int (x1))]) dX11_rare_70 rfl rfl (Nat.le_of_ble_eq_true rfl) rfl ?_
    refine aj_goto (tgt := 5) dX11_rare_73 (by decide) ?_
    refine AJ.sub [2, 3, 0] rfl ?_
    exact hk5 (p0) (x1) ((x2 + (1 : Int32))) M
  refine aj_aload_n (1) dX11_rare_57 rfl rfl ?_
  refine aj_getR (TX := TX11) zc11 (by decide) rfl (Or.inl zg_565) dX11_rare_58 (fun r1 => ?_)
  refine aj_iload_n (3) dX11_rare_61 rfl rfl ?_
  refine rV_I (as := [.int (x2)]) (c_X7_placesOf w S _ _ _) mv_X7_placesOf rfl zg_1116 (by decide) (Nat.le_of_ble_eq_true rfl) dX11_rare_62 (fun v2 => ?_)
  refine aj_if_le (tgt := 70) dX11_rare_65 (by decide) (fun h => ?_) (fun h => ?_)
  · refine aj_iinc (j := 3) (v := (x2 + (1 : Int32))) (ls2 := [(2, .int ((x2 + (1 : Int32)))), (3, .int (x0s)), (0, .ref (p0)), (1, .int (x1))]) dX11_rare_70 rfl rfl (Nat.le_of_ble_eq_true rfl) rfl ?_
    refine aj_goto (tgt := 5) dX11_rare_73 (by decide) ?_
    refine AJ.sub [2, 3, 0] rfl ?_
    exact hk5 (p0) (x1) ((x2 + (1 : Int32))) M
  refine aj_iload_n (3) dX11_rare_68 rfl rfl ?_
  refine aj_istore_n (ls2 := [(1, .int (x2)), (3, .int (x0s)), (0, .ref (p0)), (2, .int (x2))]) dX11_rare_69 rfl (Nat.le_of_ble_eq_true rfl) rfl ?_
  refine aj_iinc (j := 3) (v := (x2 + (1 : Int32))) (ls2 := [(2, .int ((x2 + (1 : Int32)))), (1, .int (x2)), (3, .int (x0s)), (0, .ref (p0))]) dX11_rare_70 rfl rfl (Nat.le_of_ble_eq_true rfl) rfl ?_
  refine aj_goto (tgt := 5) dX11_rare_73 (by decide) ?_
  refine AJ.sub [3, 1, 0] rfl ?_
  exact hk5 (p0) (x2) ((x2 + (1 : Int32))) M
def gX11_rare_5 (S : List (Nat × Nat)) : Nat → Nat → Int32 → Int32 → zM → Option Int32
  | 0 => fun _ _ _ _ => none
  | n + 1 => fun p0 x1 x2 M => zgR S M (p0) 11 14 3 (fun r1 => zgI S M (r1) 10 18 1 (fun v2 => (if v2 ≤ x2 then some (x1) else (if x1 = (-2 : Int32) then gX11_rare_52 S (gX11_rare_5 S   n) (p0) (x1) (x2) ((1 : Int32)) M else zgR S M (p0) 11 14 5 (fun r3 => zgR S M (r3) 7 15 13 (fun r4 => zrc S (r4) 5 1 ((gX5_get S (r4) (x2) M).bind (fun v5 => zgR S M (p0) 11 14 5 (fun r6 => zgR S M (r6) 7 15 13 (fun r7 => zrc S (r7) 5 1 ((gX5_get S (r7) (x1) M).bind (fun v8 => (if v8 ≤ v5 then gX11_rare_52 S (gX11_rare_5 S   n) (p0) (x1) (x2) ((0 : Int32)) M else gX11_rare_52 S (gX11_rare_5 S   n) (p0) (x1) (x2) ((1 : Int32)) M)))))))))))))
set_option maxHeartbeats 4000000 in
set_option maxRecDepth 100000 in
theorem t_X11_rare_5 (w : zWd) (S : List (Nat × Nat)) (fu : Nat) : ∀ (p0 : Nat) (x1 : Int32) (x2 : Int32) (M : zM), AJ (zfI S M) w 3 mX11_rare 5 [(0, .ref (p0)), (1, .int (x1)), (2, .int (x2))] [] (S, M) (gX11_rare_5 S fu p0 x1 x2 M) := by
  induction fu with
  | zero => intro p0 x1 x2 M; exact AJ.none
  | succ n ih =>
    intro p0 x1 x2 M
    unfold gX11_rare_5
    refine aj_iload_n (2) dX11_rare_5 rfl rfl ?_
    refine aj_aload_n (0) dX11_rare_6 rfl rfl ?_
    refine aj_getR (TX := TX11) zc11 (by decide) rfl (Or.inl zg_563) dX11_rare_7 (fun r1 => ?_)
    refine r_getI (TX := TX10) zc10 (by decide) rfl (Or.inr ⟨_, zn_187⟩) dX11_rare_10 (fun v2 => ?_)
    refine aj_icmp_ge (tgt := 76) dX11_rare_13 (by decide) (fun h => ?_) (fun h => ?_)
    · refine aj_iload_n (1) dX11_rare_76 rfl rfl ?_
      exact aj_iret dX11_rare_77 rfl rfl rfl
    refine aj_iload_n (1) dX11_rare_16 rfl rfl ?_
    refine aj_bipush (v := (-2 : Int32)) dX11_rare_17 (by decide) ?_
    refine aj_icmp_eq (tgt := 47) dX11_rare_19 (by decide) (fun h => ?_) (fun h => ?_)
    · refine aj_iconst (v := (1 : Int32)) dX11_rare_47 (by decide) ?_
      refine aj_goto (tgt := 52) dX11_rare_48 (by decide) ?_
      refine AJ.sub [0, 1, 2] rfl ?_
      exact t_X11_rare_52 w S (gX11_rare_5 S   n) ih (p0) (x1) (x2) ((1 : Int32)) M
    refine aj_aload_n (0) dX11_rare_22 rfl rfl ?_
    refine aj_getR (TX := TX11) zc11 (by decide) rfl (Or.inl zg_565) dX11_rare_23 (fun r3 => ?_)
    refine aj_getR (TX := TX7) zc7 (by decide) rfl (Or.inr ⟨_, zn_371⟩) dX11_rare_26 (fun r4 => ?_)
    refine aj_iload_n (2) dX11_rare_29 rfl rfl ?_
    refine rV_I (as := [.int (x2)]) (c_X5_get w S _ _ _) mv_X5_get rfl zg_833 (by decide) (Nat.le_of_ble_eq_true rfl) dX11_rare_30 (fun v5 => ?_)
    refine aj_aload_n (0) dX11_rare_33 rfl rfl ?_
    refine aj_getR (TX := TX11) zc11 (by decide) rfl (Or.inl zg_565) dX11_rare_34 (fun r6 => ?_)
    refine aj_getR (TX := TX7) zc7 (by decide) rfl (Or.inr ⟨_, zn_371⟩) dX11_rare_37 (fun r7 => ?_)
    refine aj_iload_n (1) dX11_rare_40 rfl rfl ?_
    refine rV_I (as := [.int (x1)]) (c_X5_get w S _ _ _) mv_X5_get rfl zg_833 (by decide) (Nat.le_of_ble_eq_true rfl) dX11_rare_41 (fun v8 => ?_)
    refine aj_icmp_ge (tgt := 51) dX11_rare_44 (by decide) (fun h => ?_) (fun h => ?_)
    · refine aj_iconst (v := (0 : Int32)) dX11_rare_51 (by decide) ?_
      refine AJ.sub [0, 1, 2] rfl ?_
      exact t_X11_rare_52 w S (gX11_rare_5 S   n) ih (p0) (x1) (x2) ((0 : Int32)) M
    refine aj_iconst (v := (1 : Int32)) dX11_rare_47 (by decide) ?_
    refine aj_goto (tgt := 52) dX11_rare_48 (by decide) ?_
    refine AJ.sub [0, 1, 2] rfl ?_
    exact t_X11_rare_52 w S (gX11_rare_5 S   n) ih (p0) (x1) (x2) ((1 : Int32)) M
def gX11_rare (S : List (Nat × Nat)) (p0 : Nat) (M : zM) : Option Int32 := gX11_rare_5 S zfu (p0) ((-2 : Int32)) ((0 : Int32)) M
set_option maxHeartbeats 4000000 in
set_option maxRecDepth 100000 in
theorem c_X11_rare (w : zWd) (S : List (Nat × Nat)) (p0 : Nat) (M : zM) : CT (zfI S M) w 3 mX11_rare [.ref (p0)] (S, M) (gX11_rare S p0 M) := by
  refine CT.of (by decide) (Nat.le_of_ble_eq_true rfl) ?_
  show AJ _ _ _ _ 0 [(0, .ref (p0))] [] _ _
  unfold gX11_rare
  refine aj_bipush (v := (-2 : Int32)) dX11_rare_0 (by decide) ?_
  refine aj_istore_n (ls2 := [(1, .int ((-2 : Int32))), (0, .ref (p0))]) dX11_rare_2 rfl (Nat.le_of_ble_eq_true rfl) rfl ?_
  refine aj_iconst (v := (0 : Int32)) dX11_rare_3 (by decide) ?_
  refine aj_istore_n (ls2 := [(2, .int ((0 : Int32))), (1, .int ((-2 : Int32))), (0, .ref (p0))]) dX11_rare_4 rfl (Nat.le_of_ble_eq_true rfl) rfl ?_
  refine AJ.sub [2, 1, 0] rfl ?_
  exact t_X11_rare_5 w S zfu (p0) ((-2 : Int32)) ((0 : Int32)) M
def gX11_gain_54 (S : List (Nat × Nat)) (p0 : Nat) (x1 : Int32) (x3 : Int32) (x4 : Int32) (x5 : Int32) (M : zM) : Option Int32 := (if x3 = 0 then zgR S M (p0) 11 14 5 (fun r1 => zgR S M (r1) 7 15 12 (fun r2 => zrc S (r2) 5 1 ((gX5_get S (r2) (x1) M).bind (fun v3 => some ((x5 + (v3 / (20 : Int32)))))))) else (if x4 = 0 then some ((2 : Int32)) else some ((1 : Int32))))
set_option maxHeartbeats 4000000 in
set_option maxRecDepth 100000 in
theorem t_X11_gain_54 (w : zWd) (S : List (Nat × Nat)) (p0 : Nat) (x1 : Int32) (x3 : Int32) (x4 : Int32) (x5 : Int32) (M : zM) : AJ (zfI S M) w 2 mX11_gain 54 [(0, .ref (p0)), (1, .int (x1)), (3, .int (x3)), (4, .int (x4)), (5, .int (x5))] [] (S, M) (gX11_gain_54 S p0 x1 x3 x4 x5 M) := by
  unfold gX11_gain_54
  refine aj_iload_n (2) dX11_gain_54 rfl rfl ?_
  refine aj_if_ne (tgt := 76) dX11_gain_55 (by decide) (fun h => ?_) (fun h => ?_)
  · refine aj_iload (3) dX11_gain_76 rfl ?_
    refine aj_if_ne (tgt := 85) dX11_gain_78 (by decide) (fun h => ?_) (fun h => ?_)
    · refine aj_iconst (v := (1 : Int32)) dX11_gain_85 (by decide) ?_
      exact aj_iret dX11_gain_86 rfl rfl rfl
    refine aj_iconst (v := (2 : Int32)) dX11_gain_81 (by decide) ?_
    refine aj_goto (tgt := 86) dX11_gain_82 (by decide) ?_
    exact aj_iret dX11_gain_86 rfl rfl rfl
  refine aj_iload (4) dX11_gain_58 rfl ?_
  refine aj_aload_n (0) dX11_gain_60 rfl rfl ?_
  refine aj_getR (TX := TX11) zc11 (by decide) rfl (Or.inl zg_565) dX11_gain_61 (fun r1 => ?_)
  refine aj_getR (TX := TX7) zc7 (by decide) rfl (Or.inr ⟨_, zn_368⟩) dX11_gain_64 (fun r2 => ?_)
  refine aj_iload_n (1) dX11_gain_67 rfl rfl ?_
  refine rV_I (as := [.int (x1)]) (c_X5_get w S _ _ _) mv_X5_get rfl zg_833 (by decide) (Nat.le_of_ble_eq_true rfl) dX11_gain_68 (fun v3 => ?_)
  refine aj_bipush (v := (20 : Int32)) dX11_gain_71 (by decide) ?_
  refine aj_idivc dX11_gain_73 (by decide) ?_
  refine aj_iadd dX11_gain_74 ?_
  exact aj_iret dX11_gain_75 rfl rfl rfl
def gX11_gain (S : List (Nat × Nat)) (p0 : Nat) (x1 : Int32) (x2 : Int32) (x3 : Int32) (x4 : Int32) (M : zM) : Option Int32 := zgR S M (p0) 11 14 3 (fun r1 => zgR S M (r1) 10 18 4 (fun r2 => zrc S (r2) 5 1 ((gX5_get S (r2) (x1) M).bind (fun v3 => (if x3 = 0 then (if x4 = 0 then zgR S M (p0) 11 14 3 (fun r4 => zgR S M (r4) 10 18 3 (fun r5 => zrc S (r5) 5 1 ((gX5_get S (r5) (x1) M).bind (fun v6 => zgR S M (p0) 11 14 3 (fun r7 => zgR S M (r7) 10 18 3 (fun r8 => zrc S (r8) 5 1 ((gX5_get S (r8) (x2) M).bind (fun v9 => some ((v3 - ((if 0 ≤ (v6 - v9) then (v6 - v9) else 0 - (v6 - v9)) / (3 : Int32)))))))))))) else gX11_gain_54 S (p0) (x1) (x3) (x4) (v3) M) else gX11_gain_54 S (p0) (x1) (x3) (x4) (v3) M)))))
set_option maxHeartbeats 4000000 in
set_option maxRecDepth 100000 in
theorem c_X11_gain (w : zWd) (S : List (Nat × Nat)) (p0 : Nat) (x1 : Int32) (x2 : Int32) (x3 : Int32) (x4 : Int32) (M : zM) : CT (zfI S M) w 2 mX11_gain [.ref (p0), .int (x1), .int (x2), .int (x3), .int (x4)] (S, M) (gX11_gain S p0 x1 x2 x3 x4 M) := by
  refine CT.of (by decide) (Nat.le_of_ble_eq_true rfl) ?_
  show AJ _ _ _ _ 0 [(0, .ref (p0)), (1, .int (x1)), (2, .int (x2)), (3, .int (x3)), (4, .int (x4))] [] _ _
  unfold gX11_gain
  refine aj_aload_n (0) dX11_gain_0 rfl rfl ?_
  refine aj_getR (TX := TX11) zc11 (by decide) rfl (Or.inl zg_563) dX11_gain_1 (fun r1 => ?_)
  refine aj_getR (TX := TX10) zc10 (by decide) rfl (Or.inr ⟨_, zn_196⟩) dX11_gain_4 (fun r2 => ?_)
  refine aj_iload_n (1) dX11_gain_7 rfl rfl ?_
  refine rV_I (as := [.int (x1)]) (c_X5_get w S _ _ _) mv_X5_get rfl zg_833 (by decide) (Nat.le_of_ble_eq_true rfl) dX11_gain_8 (fun v3 => ?_)
  refine aj_istore (ls2 := [(5, .int (v3)), (0, .ref (p0)), (1, .int (x1)), (2, .int (x2)), (3, .int (x3)), (4, .int (x4))]) dX11_gain_11 (Nat.le_of_ble_eq_true rfl) rfl ?_
  refine aj_iload_n (4) dX11_gain_13 rfl rfl ?_
  refine aj_if_ne (tgt := 54) dX11_gain_14 (by decide) (fun h => ?_) (fun h => ?_)
  · refine AJ.sub [1, 2, 4, 5, 0] rfl ?_
    exact t_X11_gain_54 w S (p0) (x1) (x3) (x4) (v3) M
  refine aj_iload (5) dX11_gain_17 rfl ?_
  refine aj_if_ne (tgt := 54) dX11_gain_19 (by decide) (fun h => ?_) (fun h => ?_)
  · refine AJ.sub [1, 2, 4, 5, 0] rfl ?_
    exact t_X11_gain_54 w S (p0) (x1) (x3) (x4) (v3) M
  refine aj_iload (0) dX11_gain_22 rfl ?_
  refine aj_aload_n (1) dX11_gain_24 rfl rfl ?_
  refine aj_getR (TX := TX11) zc11 (by decide) rfl (Or.inl zg_563) dX11_gain_25 (fun r4 => ?_)
  refine aj_getR (TX := TX10) zc10 (by decide) rfl (Or.inr ⟨_, zn_192⟩) dX11_gain_28 (fun r5 => ?_)
  refine aj_iload_n (2) dX11_gain_31 rfl rfl ?_
  refine rV_I (as := [.int (x1)]) (c_X5_get w S _ _ _) mv_X5_get rfl zg_833 (by decide) (Nat.le_of_ble_eq_true rfl) dX11_gain_32 (fun v6 => ?_)
  refine aj_aload_n (1) dX11_gain_35 rfl rfl ?_
  refine aj_getR (TX := TX11) zc11 (by decide) rfl (Or.inl zg_563) dX11_gain_36 (fun r7 => ?_)
  refine aj_getR (TX := TX10) zc10 (by decide) rfl (Or.inr ⟨_, zn_192⟩) dX11_gain_39 (fun r8 => ?_)
  refine aj_iload_n (3) dX11_gain_42 rfl rfl ?_
  refine rV_I (as := [.int (x2)]) (c_X5_get w S _ _ _) mv_X5_get rfl zg_833 (by decide) (Nat.le_of_ble_eq_true rfl) dX11_gain_43 (fun v9 => ?_)
  refine aj_isub dX11_gain_46 ?_
  refine aj_mabs zg_1129 zg_1069 zg_3 zg_1070 (by decide) (Nat.le_of_ble_eq_true rfl) dX11_gain_47 ?_
  refine aj_iconst (v := (3 : Int32)) dX11_gain_50 (by decide) ?_
  refine aj_idivc dX11_gain_51 (by decide) ?_
  refine aj_isub dX11_gain_52 ?_
  exact aj_iret dX11_gain_53 rfl rfl rfl
def gX11_isRest (S : List (Nat × Nat)) (p0 : Nat) (x1 : Int32) (x2 : Int32) (x3 : Int32) (M : zM) : Option Int32 := zrc S (p0) 11 14 ((gX11_gain S (p0) (x1) (x2) ((x3 >>> ((1 : Int32) &&& 31))) ((x3 &&& (1 : Int32))) M).bind (fun v1 => zrc S (p0) 11 14 ((gX11_gain S (p0) (x1) (x2) (((1 : Int32) - (x3 >>> ((1 : Int32) &&& 31)))) ((x3 &&& (1 : Int32))) M).bind (fun v2 => (if v1 < v2 then some ((0 : Int32)) else zrc S (p0) 11 14 ((gX11_gain S (p0) (x2) (x1) ((x3 &&& (1 : Int32))) ((x3 >>> ((1 : Int32) &&& 31))) M).bind (fun v3 => zrc S (p0) 11 14 ((gX11_gain S (p0) (x2) (x1) (((1 : Int32) - (x3 &&& (1 : Int32)))) ((x3 >>> ((1 : Int32) &&& 31))) M).bind (fun v4 => (if v3 < v4 then some ((0 : Int32)) else some ((1 : Int32))))))))))))
set_option maxHeartbeats 4000000 in
set_option maxRecDepth 100000 in
theorem c_X11_isRest (w : zWd) (S : List (Nat × Nat)) (p0 : Nat) (x1 : Int32) (x2 : Int32) (x3 : Int32) (M : zM) : CT (zfI S M) w 3 mX11_isRest [.ref (p0), .int (x1), .int (x2), .int (x3)] (S, M) (gX11_isRest S p0 x1 x2 x3 M) := by
  refine CT.of (by decide) (Nat.le_of_ble_eq_true rfl) ?_
  show AJ _ _ _ _ 0 [(0, .ref (p0)), (1, .int (x1)), (2, .int (x2)), (3, .int (x3))] [] _ _
  unfold gX11_isRest
  refine aj_iload_n (3) dX11_isRest_0 rfl rfl ?_
  refine aj_iconst (v := (1 : Int32)) dX11_isRest_1 (by decide) ?_
  refine aj_ishr dX11_isRest_2 ?_
  refine aj_istore (ls2 := [(4, .int ((x3 >>> ((1 : Int32) &&& 31)))), (0, .ref (p0)), (1, .int (x1)), (2, .int (x2)), (3, .int (x3))]) dX11_isRest_3 (Nat.le_of_ble_eq_true rfl) rfl ?_
  refine aj_iload_n (4) dX11_isRest_5 rfl rfl ?_
  refine aj_iconst (v := (1 : Int32)) dX11_isRest_6 (by decide) ?_
  refine aj_iand dX11_isRest_7 ?_
  refine aj_istore (ls2 := [(5, .int ((x3 &&& (1 : Int32)))), (4, .int ((x3 >>> ((1 : Int32) &&& 31)))), (0, .ref (p0)), (1, .int (x1)), (2, .int (x2)), (3, .int (x3))]) dX11_isRest_8 (Nat.le_of_ble_eq_true rfl) rfl ?_
  refine aj_aload_n (2) dX11_isRest_10 rfl rfl ?_
  refine aj_iload_n (3) dX11_isRest_11 rfl rfl ?_
  refine aj_iload_n (4) dX11_isRest_12 rfl rfl ?_
  refine aj_iload (1) dX11_isRest_13 rfl ?_
  refine aj_iload (0) dX11_isRest_15 rfl ?_
  refine rV_I (as := [.int (x1), .int (x2), .int ((x3 >>> ((1 : Int32) &&& 31))), .int ((x3 &&& (1 : Int32)))]) (c_X11_gain w S _ _ _ _ _ _) mv_X11_gain rfl zg_1125 (by decide) (Nat.le_of_ble_eq_true rfl) dX11_isRest_17 (fun v1 => ?_)
  refine aj_aload_n (2) dX11_isRest_20 rfl rfl ?_
  refine aj_iload_n (3) dX11_isRest_21 rfl rfl ?_
  refine aj_iload_n (4) dX11_isRest_22 rfl rfl ?_
  refine aj_iconst (v := (1 : Int32)) dX11_isRest_23 (by decide) ?_
  refine aj_iload (1) dX11_isRest_24 rfl ?_
  refine aj_isub dX11_isRest_26 ?_
  refine aj_iload (0) dX11_isRest_27 rfl ?_
  refine rV_I (as := [.int (x1), .int (x2), .int (((1 : Int32) - (x3 >>> ((1 : Int32) &&& 31)))), .int ((x3 &&& (1 : Int32)))]) (c_X11_gain w S _ _ _ _ _ _) mv_X11_gain rfl zg_1125 (by decide) (Nat.le_of_ble_eq_true rfl) dX11_isRest_29 (fun v2 => ?_)
  refine aj_icmp_lt (tgt := 64) dX11_isRest_32 (by decide) (fun h => ?_) (fun h => ?_)
  · refine aj_iconst (v := (0 : Int32)) dX11_isRest_64 (by decide) ?_
    exact aj_iret dX11_isRest_65 rfl (by decide +kernel) rfl
  refine aj_aload_n (2) dX11_isRest_35 rfl rfl ?_
  refine aj_iload_n (4) dX11_isRest_36 rfl rfl ?_
  refine aj_iload_n (3) dX11_isRest_37 rfl rfl ?_
  refine aj_iload (0) dX11_isRest_38 rfl ?_
  refine aj_iload (1) dX11_isRest_40 rfl ?_
  refine rV_I (as := [.int (x2), .int (x1), .int ((x3 &&& (1 : Int32))), .int ((x3 >>> ((1 : Int32) &&& 31)))]) (c_X11_gain w S _ _ _ _ _ _) mv_X11_gain rfl zg_1125 (by decide) (Nat.le_of_ble_eq_true rfl) dX11_isRest_42 (fun v3 => ?_)
  refine aj_aload_n (2) dX11_isRest_45 rfl rfl ?_
  refine aj_iload_n (4) dX11_isRest_46 rfl rfl ?_
  refine aj_iload_n (3) dX11_isRest_47 rfl rfl ?_
  refine aj_iconst (v := (1 : Int32)) dX11_isRest_48 (by decide) ?_
  refine aj_iload (0) dX11_isRest_49 rfl ?_
  refine aj_isub dX11_isRest_51 ?_
  refine aj_iload (1) dX11_isRest_52 rfl ?_
  refine rV_I (as := [.int (x2), .int (x1), .int (((1 : Int32) - (x3 &&& (1 : Int32)))), .int ((x3 >>> ((1 : Int32) &&& 31)))]) (c_X11_gain w S _ _ _ _ _ _) mv_X11_gain rfl zg_1125 (by decide) (Nat.le_of_ble_eq_true rfl) dX11_isRest_54 (fun v4 => ?_)
  refine aj_icmp_lt (tgt := 64) dX11_isRest_57 (by decide) (fun h => ?_) (fun h => ?_)
  · refine aj_iconst (v := (0 : Int32)) dX11_isRest_64 (by decide) ?_
    exact aj_iret dX11_isRest_65 rfl (by decide +kernel) rfl
  refine aj_iconst (v := (1 : Int32)) dX11_isRest_60 (by decide) ?_
  refine aj_goto (tgt := 65) dX11_isRest_61 (by decide) ?_
  exact aj_iret dX11_isRest_65 rfl (by decide +kernel) rfl
def gX11_rests_34 (S : List (Nat × Nat)) : Nat → Nat → Int32 → Int32 → Int32 → Int32 → zM → Option Int32
  | 0 => fun _ _ _ _ _ _ => none
  | n + 1 => fun p0 x1 x2 x3 x4 M => (if (4 : Int32) ≤ x4 then some (x3) else zrc S (p0) 11 14 ((gX11_isRest S (p0) (x1) (x2) (x4) M).bind (fun v1 => (if v1 = 0 then (gX11_rests_34 S   n) (p0) (x1) (x2) (x3) ((x4 + (1 : Int32))) M else (gX11_rests_34 S   n) (p0) (x1) (x2) ((x3 + (1 : Int32))) ((x4 + (1 : Int32))) M))))
set_option maxHeartbeats 4000000 in
set_option maxRecDepth 100000 in
theorem t_X11_rests_34 (w : zWd) (S : List (Nat × Nat)) (fu : Nat) : ∀ (p0 : Nat) (x1 : Int32) (x2 : Int32) (x3 : Int32) (x4 : Int32) (M : zM), AJ (zfI S M) w 4 mX11_rests 34 [(0, .ref (p0)), (1, .int (x1)), (2, .int (x2)), (3, .int (x3)), (4, .int (x4))] [] (S, M) (gX11_rests_34 S fu p0 x1 x2 x3 x4 M) := by
  induction fu with
  | zero => intro p0 x1 x2 x3 x4 M; exact AJ.none
  | succ n ih =>
    intro p0 x1 x2 x3 x4 M
    unfold gX11_rests_34
    refine aj_iload (4) dX11_rests_34 rfl ?_
    refine aj_iconst (v := (4 : Int32)) dX11_rests_36 (by decide) ?_
    refine aj_icmp_ge (tgt := 60) dX11_rests_37 (by decide) (fun h => ?_) (fun h => ?_)
    · refine aj_iload_n (3) dX11_rests_60 rfl rfl ?_
      exact aj_iret dX11_rests_61 rfl rfl rfl
    refine aj_aload_n (0) dX11_rests_40 rfl rfl ?_
    refine aj_iload_n (1) dX11_rests_41 rfl rfl ?_
    refine aj_iload_n (2) dX11_rests_42 rfl rfl ?_
    refine aj_iload (4) dX11_rests_43 rfl ?_
    refine rV_I (as := [.int (x1), .int (x2), .int (x4)]) (c_X11_isRest w S _ _ _ _ _) mv_X11_isRest rfl zg_1121 (by decide) (Nat.le_of_ble_eq_true rfl) dX11_rests_45 (fun v1 => ?_)
    refine aj_if_eq (tgt := 54) dX11_rests_48 (by decide) (fun h => ?_) (fun h => ?_)
    · refine aj_iinc (j := 4) (v := (x4 + (1 : Int32))) (ls2 := [(4, .int ((x4 + (1 : Int32)))), (0, .ref (p0)), (1, .int (x1)), (2, .int (x2)), (3, .int (x3))]) dX11_rests_54 rfl rfl (Nat.le_of_ble_eq_true rfl) rfl ?_
      refine aj_goto (tgt := 34) dX11_rests_57 (by decide) ?_
      refine AJ.sub [1, 2, 3, 4, 0] rfl ?_
      exact ih (p0) (x1) (x2) (x3) ((x4 + (1 : Int32))) M
    refine aj_iinc (j := 3) (v := (x3 + (1 : Int32))) (ls2 := [(3, .int ((x3 + (1 : Int32)))), (0, .ref (p0)), (1, .int (x1)), (2, .int (x2)), (4, .int (x4))]) dX11_rests_51 rfl rfl (Nat.le_of_ble_eq_true rfl) rfl ?_
    refine aj_iinc (j := 4) (v := (x4 + (1 : Int32))) (ls2 := [(4, .int ((x4 + (1 : Int32)))), (3, .int ((x3 + (1 : Int32)))), (0, .ref (p0)), (1, .int (x1)), (2, .int (x2))]) dX11_rests_54 rfl rfl (Nat.le_of_ble_eq_true rfl) rfl ?_
    refine aj_goto (tgt := 34) dX11_rests_57 (by decide) ?_
    refine AJ.sub [2, 3, 4, 1, 0] rfl ?_
    exact ih (p0) (x1) (x2) ((x3 + (1 : Int32))) ((x4 + (1 : Int32))) M
def gX11_rests (S : List (Nat × Nat)) (p0 : Nat) (x1 : Int32) (x2 : Int32) (M : zM) : Option Int32 := (if x1 = x2 then some ((-1 : Int32)) else zgR S M (p0) 11 14 3 (fun r1 => zrc S (r1) 10 18 ((gX10_hasTrade S (r1) (x1) M).bind (fun v2 => (if v2 = 0 then some ((-1 : Int32)) else zgR S M (p0) 11 14 3 (fun r3 => zrc S (r3) 10 18 ((gX10_hasTrade S (r3) (x2) M).bind (fun v4 => (if v4 = 0 then some ((-1 : Int32)) else gX11_rests_34 S zfu (p0) (x1) (x2) ((0 : Int32)) ((0 : Int32)) M)))))))))
set_option maxHeartbeats 4000000 in
set_option maxRecDepth 100000 in
theorem c_X11_rests (w : zWd) (S : List (Nat × Nat)) (p0 : Nat) (x1 : Int32) (x2 : Int32) (M : zM) : CT (zfI S M) w 4 mX11_rests [.ref (p0), .int (x1), .int (x2)] (S, M) (gX11_rests S p0 x1 x2 M) := by
  refine CT.of (by decide) (Nat.le_of_ble_eq_true rfl) ?_
  show AJ _ _ _ _ 0 [(0, .ref (p0)), (1, .int (x1)), (2, .int (x2))] [] _ _
  unfold gX11_rests
  refine aj_iload_n (1) dX11_rests_0 rfl rfl ?_
  refine aj_iload_n (2) dX11_rests_1 rfl rfl ?_
  refine aj_icmp_eq (tgt := 27) dX11_rests_2 (by decide) (fun h => ?_) (fun h => ?_)
  · refine aj_iconst (v := (-1 : Int32)) dX11_rests_27 (by decide) ?_
    exact aj_iret dX11_rests_28 rfl rfl rfl
  refine aj_aload_n (0) dX11_rests_5 rfl rfl ?_
  refine aj_getR (TX := TX11) zc11 (by decide) rfl (Or.inl zg_563) dX11_rests_6 (fun r1 => ?_)
  refine aj_iload_n (1) dX11_rests_9 rfl rfl ?_
  refine rV_I (as := [.int (x1)]) (c_X10_hasTrade w S _ _ _) mv_X10_hasTrade rfl zg_846 (by decide) (Nat.le_of_ble_eq_true rfl) dX11_rests_10 (fun v2 => ?_)
  refine aj_if_eq (tgt := 27) dX11_rests_13 (by decide) (fun h => ?_) (fun h => ?_)
  · refine aj_iconst (v := (-1 : Int32)) dX11_rests_27 (by decide) ?_
    exact aj_iret dX11_rests_28 rfl rfl rfl
  refine aj_aload_n (0) dX11_rests_16 rfl rfl ?_
  refine aj_getR (TX := TX11) zc11 (by decide) rfl (Or.inl zg_563) dX11_rests_17 (fun r3 => ?_)
  refine aj_iload_n (2) dX11_rests_20 rfl rfl ?_
  refine rV_I (as := [.int (x2)]) (c_X10_hasTrade w S _ _ _) mv_X10_hasTrade rfl zg_846 (by decide) (Nat.le_of_ble_eq_true rfl) dX11_rests_21 (fun v4 => ?_)
  refine aj_if_ne (tgt := 29) dX11_rests_24 (by decide) (fun h => ?_) (fun h => ?_)
  · refine aj_iconst (v := (0 : Int32)) dX11_rests_29 (by decide) ?_
    refine aj_istore_n (ls2 := [(3, .int ((0 : Int32))), (0, .ref (p0)), (1, .int (x1)), (2, .int (x2))]) dX11_rests_30 rfl (Nat.le_of_ble_eq_true rfl) rfl ?_
    refine aj_iconst (v := (0 : Int32)) dX11_rests_31 (by decide) ?_
    refine aj_istore (ls2 := [(4, .int ((0 : Int32))), (3, .int ((0 : Int32))), (0, .ref (p0)), (1, .int (x1)), (2, .int (x2))]) dX11_rests_32 (Nat.le_of_ble_eq_true rfl) rfl ?_
    refine AJ.sub [2, 3, 4, 1, 0] rfl ?_
    exact t_X11_rests_34 w S zfu (p0) (x1) (x2) ((0 : Int32)) ((0 : Int32)) M
  refine aj_iconst (v := (-1 : Int32)) dX11_rests_27 (by decide) ?_
  exact aj_iret dX11_rests_28 rfl rfl rfl
def gX11_rest_39 (S : List (Nat × Nat)) : Nat → Nat → Int32 → Int32 → Int32 → Int32 → zM → Option Int32
  | 0 => fun _ _ _ _ _ _ => none
  | n + 1 => fun p0 x1 x2 x4 x5 M => (if (4 : Int32) ≤ x5 then some ((-2 : Int32)) else zrc S (p0) 11 14 ((gX11_isRest S (p0) (x1) (x2) (x5) M).bind (fun v1 => (if v1 = 0 then (gX11_rest_39 S   n) (p0) (x1) (x2) (x4) ((x5 + (1 : Int32))) M else (if x4 = 0 then some ((((10 : Int32) * (x5 >>> ((1 : Int32) &&& 31))) + (x5 &&& (1 : Int32)))) else (gX11_rest_39 S   n) (p0) (x1) (x2) ((x4 + (-1 : Int32))) ((x5 + (1 : Int32))) M)))))
set_option maxHeartbeats 4000000 in
set_option maxRecDepth 100000 in
theorem t_X11_rest_39 (w : zWd) (S : List (Nat × Nat)) (fu : Nat) : ∀ (p0 : Nat) (x1 : Int32) (x2 : Int32) (x4 : Int32) (x5 : Int32) (M : zM), AJ (zfI S M) w 4 mX11_rest 39 [(0, .ref (p0)), (1, .int (x1)), (2, .int (x2)), (4, .int (x4)), (5, .int (x5))] [] (S, M) (gX11_rest_39 S fu p0 x1 x2 x4 x5 M) := by
  induction fu with
  | zero => intro p0 x1 x2 x4 x5 M; exact AJ.none
  | succ n ih =>
    intro p0 x1 x2 x4 x5 M
    unfold gX11_rest_39
    refine aj_iload (4) dX11_rest_39 rfl ?_
    refine aj_iconst (v := (4 : Int32)) dX11_rest_41 (by decide) ?_
    refine aj_icmp_ge (tgt := 83) dX11_rest_42 (by decide) (fun h => ?_) (fun h => ?_)
    · refine aj_bipush (v := (-2 : Int32)) dX11_rest_83 (by decide) ?_
      exact aj_iret dX11_rest_85 rfl rfl rfl
    refine aj_aload_n (0) dX11_rest_45 rfl rfl ?_
    refine aj_iload_n (1) dX11_rest_46 rfl rfl ?_
    refine aj_iload_n (2) dX11_rest_47 rfl rfl ?_
    refine aj_iload (4) dX11_rest_48 rfl ?_
    refine rV_I (as := [.int (x1), .int (x2), .int (x5)]) (c_X11_isRest w S _ _ _ _ _) mv_X11_isRest rfl zg_1121 (by decide) (Nat.le_of_ble_eq_true rfl) dX11_rest_50 (fun v1 => ?_)
    refine aj_if_eq (tgt := 77) dX11_rest_53 (by decide) (fun h => ?_) (fun h => ?_)
    · refine aj_iinc (j := 4) (v := (x5 + (1 : Int32))) (ls2 := [(5, .int ((x5 + (1 : Int32)))), (0, .ref (p0)), (1, .int (x1)), (2, .int (x2)), (4, .int (x4))]) dX11_rest_77 rfl rfl (Nat.le_of_ble_eq_true rfl) rfl ?_
      refine aj_goto (tgt := 39) dX11_rest_80 (by decide) ?_
      refine AJ.sub [1, 2, 3, 4, 0] rfl ?_
      exact ih (p0) (x1) (x2) (x4) ((x5 + (1 : Int32))) M
    refine aj_iload (3) dX11_rest_56 rfl ?_
    refine aj_if_ne (tgt := 74) dX11_rest_58 (by decide) (fun h => ?_) (fun h => ?_)
    · refine aj_iinc (j := 3) (v := (x4 + (-1 : Int32))) (ls2 := [(4, .int ((x4 + (-1 : Int32)))), (0, .ref (p0)), (1, .int (x1)), (2, .int (x2)), (5, .int (x5))]) dX11_rest_74 rfl rfl (Nat.le_of_ble_eq_true rfl) rfl ?_
      refine aj_iinc (j := 4) (v := (x5 + (1 : Int32))) (ls2 := [(5, .int ((x5 + (1 : Int32)))), (4, .int ((x4 + (-1 : Int32)))), (0, .ref (p0)), (1, .int (x1)), (2, .int (x2))]) dX11_rest_77 rfl rfl (Nat.le_of_ble_eq_true rfl) rfl ?_
      refine aj_goto (tgt := 39) dX11_rest_80 (by decide) ?_
      refine AJ.sub [2, 3, 4, 1, 0] rfl ?_
      exact ih (p0) (x1) (x2) ((x4 + (-1 : Int32))) ((x5 + (1 : Int32))) M
    refine aj_bipush (v := (10 : Int32)) dX11_rest_61 (by decide) ?_
    refine aj_iload (4) dX11_rest_63 rfl ?_
    refine aj_iconst (v := (1 : Int32)) dX11_rest_65 (by decide) ?_
    refine aj_ishr dX11_rest_66 ?_
    refine aj_imul dX11_rest_67 ?_
    refine aj_iload (4) dX11_rest_68 rfl ?_
    refine aj_iconst (v := (1 : Int32)) dX11_rest_70 (by decide) ?_
    refine aj_iand dX11_rest_71 ?_
    refine aj_iadd dX11_rest_72 ?_
    exact aj_iret dX11_rest_73 rfl rfl rfl
def gX11_rest (S : List (Nat × Nat)) (p0 : Nat) (x1 : Int32) (x2 : Int32) (x3 : Int32) (M : zM) : Option Int32 := (if x1 = x2 then some ((-1 : Int32)) else zgR S M (p0) 11 14 3 (fun r1 => zrc S (r1) 10 18 ((gX10_hasTrade S (r1) (x1) M).bind (fun v2 => (if v2 = 0 then some ((-1 : Int32)) else zgR S M (p0) 11 14 3 (fun r3 => zrc S (r3) 10 18 ((gX10_hasTrade S (r3) (x2) M).bind (fun v4 => (if v4 = 0 then some ((-1 : Int32)) else (if 0 ≤ x3 then gX11_rest_39 S zfu (p0) (x1) (x2) (x3) ((0 : Int32)) M else some ((-1 : Int32))))))))))))
set_option maxHeartbeats 4000000 in
set_option maxRecDepth 100000 in
theorem c_X11_rest (w : zWd) (S : List (Nat × Nat)) (p0 : Nat) (x1 : Int32) (x2 : Int32) (x3 : Int32) (M : zM) : CT (zfI S M) w 4 mX11_rest [.ref (p0), .int (x1), .int (x2), .int (x3)] (S, M) (gX11_rest S p0 x1 x2 x3 M) := by
  refine CT.of (by decide) (Nat.le_of_ble_eq_true rfl) ?_
  show AJ _ _ _ _ 0 [(0, .ref (p0)), (1, .int (x1)), (2, .int (x2)), (3, .int (x3))] [] _ _
  unfold gX11_rest
  refine aj_iload_n (1) dX11_rest_0 rfl rfl ?_
  refine aj_iload_n (2) dX11_rest_1 rfl rfl ?_
  refine aj_icmp_eq (tgt := 31) dX11_rest_2 (by decide) (fun h => ?_) (fun h => ?_)
  · refine aj_iconst (v := (-1 : Int32)) dX11_rest_31 (by decide) ?_
    exact aj_iret dX11_rest_32 rfl rfl rfl
  refine aj_aload_n (0) dX11_rest_5 rfl rfl ?_
  refine aj_getR (TX := TX11) zc11 (by decide) rfl (Or.inl zg_563) dX11_rest_6 (fun r1 => ?_)
  refine aj_iload_n (1) dX11_rest_9 rfl rfl ?_
  refine rV_I (as := [.int (x1)]) (c_X10_hasTrade w S _ _ _) mv_X10_hasTrade rfl zg_846 (by decide) (Nat.le_of_ble_eq_true rfl) dX11_rest_10 (fun v2 => ?_)
  refine aj_if_eq (tgt := 31) dX11_rest_13 (by decide) (fun h => ?_) (fun h => ?_)
  · refine aj_iconst (v := (-1 : Int32)) dX11_rest_31 (by decide) ?_
    exact aj_iret dX11_rest_32 rfl rfl rfl
  refine aj_aload_n (0) dX11_rest_16 rfl rfl ?_
  refine aj_getR (TX := TX11) zc11 (by decide) rfl (Or.inl zg_563) dX11_rest_17 (fun r3 => ?_)
  refine aj_iload_n (2) dX11_rest_20 rfl rfl ?_
  refine rV_I (as := [.int (x2)]) (c_X10_hasTrade w S _ _ _) mv_X10_hasTrade rfl zg_846 (by decide) (Nat.le_of_ble_eq_true rfl) dX11_rest_21 (fun v4 => ?_)
  refine aj_if_eq (tgt := 31) dX11_rest_24 (by decide) (fun h => ?_) (fun h => ?_)
  · refine aj_iconst (v := (-1 : Int32)) dX11_rest_31 (by decide) ?_
    exact aj_iret dX11_rest_32 rfl rfl rfl
  refine aj_iload_n (3) dX11_rest_27 rfl rfl ?_
  refine aj_if_ge (tgt := 33) dX11_rest_28 (by decide) (fun h => ?_) (fun h => ?_)
  · refine aj_iload_n (3) dX11_rest_33 rfl rfl ?_
    refine aj_istore (ls2 := [(4, .int (x3)), (0, .ref (p0)), (1, .int (x1)), (2, .int (x2)), (3, .int (x3))]) dX11_rest_34 (Nat.le_of_ble_eq_true rfl) rfl ?_
    refine aj_iconst (v := (0 : Int32)) dX11_rest_36 (by decide) ?_
    refine aj_istore (ls2 := [(5, .int ((0 : Int32))), (4, .int (x3)), (0, .ref (p0)), (1, .int (x1)), (2, .int (x2)), (3, .int (x3))]) dX11_rest_37 (Nat.le_of_ble_eq_true rfl) rfl ?_
    refine AJ.sub [2, 3, 4, 1, 0] rfl ?_
    exact t_X11_rest_39 w S zfu (p0) (x1) (x2) (x3) ((0 : Int32)) M
  refine aj_iconst (v := (-1 : Int32)) dX11_rest_31 (by decide) ?_
  exact aj_iret dX11_rest_32 rfl rfl rfl
def gX11_sure_87 (S : List (Nat × Nat)) : Nat → Int32 → Int32 → Int32 → Int32 → Int64 → Int32 → zM → Option Int64
  | 0 => fun _ _ _ _ _ _ _ => none
  | n + 1 => fun x1 x2 x3 x4 l5 x7 M => (if x1 ≤ x7 then some (l5) else (if x2 = 0 then (gX11_sure_87 S   n) (x1) (x2) (x3) (x4) ((l5 * (x3).toInt64)) ((x7 + (1 : Int32))) M else (gX11_sure_87 S   n) (x1) (x2) (x3) (x4) ((l5 * (x4).toInt64)) ((x7 + (1 : Int32))) M))
set_option maxHeartbeats 4000000 in
set_option maxRecDepth 100000 in
theorem t_X11_sure_87 (w : zWd) (S : List (Nat × Nat)) (fu : Nat) : ∀ (x1 : Int32) (x2 : Int32) (x3 : Int32) (x4 : Int32) (l5 : Int64) (x7 : Int32) (M : zM), AJ (zfJ S M) w 1 mX11_sure 87 [(1, .int (x1)), (2, .int (x2)), (3, .int (x3)), (4, .int (x4)), (5, .long (l5)), (7, .int (x7))] [] (S, M) (gX11_sure_87 S fu x1 x2 x3 x4 l5 x7 M) := by
  induction fu with
  | zero => intro x1 x2 x3 x4 l5 x7 M; exact AJ.none
  | succ n ih =>
    intro x1 x2 x3 x4 l5 x7 M
    unfold gX11_sure_87
    refine aj_iload (5) dX11_sure_87 rfl ?_
    refine aj_iload_n (0) dX11_sure_89 rfl rfl ?_
    refine aj_icmp_ge (tgt := 116) dX11_sure_90 (by decide) (fun h => ?_) (fun h => ?_)
    · refine aj_lload (4) dX11_sure_116 rfl ?_
      exact aj_lret dX11_sure_118 rfl rfl
    refine aj_lload (4) dX11_sure_93 rfl ?_
    refine aj_iload_n (1) dX11_sure_95 rfl rfl ?_
    refine aj_if_ne (tgt := 104) dX11_sure_96 (by decide) (fun h => ?_) (fun h => ?_)
    · refine aj_iload (3) dX11_sure_104 rfl ?_
      refine aj_i2l dX11_sure_106 ?_
      refine aj_lmul dX11_sure_107 ?_
      refine aj_lstore (ls2 := [(5, .long ((l5 * (x4).toInt64))), (1, .int (x1)), (2, .int (x2)), (3, .int (x3)), (4, .int (x4)), (7, .int (x7))]) dX11_sure_108 (Nat.le_of_ble_eq_true rfl) rfl ?_
      refine aj_iinc (j := 5) (v := (x7 + (1 : Int32))) (ls2 := [(7, .int ((x7 + (1 : Int32)))), (5, .long ((l5 * (x4).toInt64))), (1, .int (x1)), (2, .int (x2)), (3, .int (x3)), (4, .int (x4))]) dX11_sure_110 rfl rfl (Nat.le_of_ble_eq_true rfl) rfl ?_
      refine aj_goto (tgt := 87) dX11_sure_113 (by decide) ?_
      refine AJ.sub [2, 3, 4, 5, 1, 0] rfl ?_
      exact ih (x1) (x2) (x3) (x4) ((l5 * (x4).toInt64)) ((x7 + (1 : Int32))) M
    refine aj_iload_n (2) dX11_sure_99 rfl rfl ?_
    refine aj_i2l dX11_sure_100 ?_
    refine aj_goto (tgt := 107) dX11_sure_101 (by decide) ?_
    refine aj_lmul dX11_sure_107 ?_
    refine aj_lstore (ls2 := [(5, .long ((l5 * (x3).toInt64))), (1, .int (x1)), (2, .int (x2)), (3, .int (x3)), (4, .int (x4)), (7, .int (x7))]) dX11_sure_108 (Nat.le_of_ble_eq_true rfl) rfl ?_
    refine aj_iinc (j := 5) (v := (x7 + (1 : Int32))) (ls2 := [(7, .int ((x7 + (1 : Int32)))), (5, .long ((l5 * (x3).toInt64))), (1, .int (x1)), (2, .int (x2)), (3, .int (x3)), (4, .int (x4))]) dX11_sure_110 rfl rfl (Nat.le_of_ble_eq_true rfl) rfl ?_
    refine aj_goto (tgt := 87) dX11_sure_113 (by decide) ?_
    refine AJ.sub [2, 3, 4, 5, 1, 0] rfl ?_
    exact ih (x1) (x2) (x3) (x4) ((l5 * (x3).toInt64)) ((x7 + (1 : Int32))) M
def gX11_sure_42 (S : List (Nat × Nat)) : Nat → Int32 → Int32 → Int32 → Int32 → Int32 → zM → Option Int64
  | 0 => fun _ _ _ _ _ _ => none
  | n + 1 => fun x1 x2 x3 x4 x5 M => (if x5 ≤ (1 : Int32) then gX11_sure_87 S zfu (x1) (x2) (x3) (x4) ((1 : Int64)) ((0 : Int32)) M else (if x5 = 0 then none else (if (x3 - x3 / x5 * x5) = 0 then (if x5 = 0 then none else (if (x4 - x4 / x5 * x5) = 0 then (if x5 = 0 then none else (if x5 = 0 then none else (gX11_sure_42 S   n) (x1) (x2) ((x3 / x5)) ((x4 / x5)) ((x5 + (-1 : Int32))) M)) else (gX11_sure_42 S   n) (x1) (x2) (x3) (x4) ((x5 + (-1 : Int32))) M)) else (gX11_sure_42 S   n) (x1) (x2) (x3) (x4) ((x5 + (-1 : Int32))) M)))
set_option maxHeartbeats 4000000 in
set_option maxRecDepth 100000 in
theorem t_X11_sure_42 (w : zWd) (S : List (Nat × Nat)) (fu : Nat) : ∀ (x1 : Int32) (x2 : Int32) (x3 : Int32) (x4 : Int32) (x5 : Int32) (M : zM), AJ (zfJ S M) w 1 mX11_sure 42 [(1, .int (x1)), (2, .int (x2)), (3, .int (x3)), (4, .int (x4)), (5, .int (x5))] [] (S, M) (gX11_sure_42 S fu x1 x2 x3 x4 x5 M) := by
  induction fu with
  | zero => intro x1 x2 x3 x4 x5 M; exact AJ.none
  | succ n ih =>
    intro x1 x2 x3 x4 x5 M
    unfold gX11_sure_42
    refine aj_iload (4) dX11_sure_42 rfl ?_
    refine aj_iconst (v := (1 : Int32)) dX11_sure_44 (by decide) ?_
    refine aj_icmp_le (tgt := 81) dX11_sure_45 (by decide) (fun h => ?_) (fun h => ?_)
    · refine aj_lconst (v := (1 : Int64)) dX11_sure_81 (by decide) ?_
      refine aj_lstore (ls2 := [(5, .long ((1 : Int64))), (1, .int (x1)), (2, .int (x2)), (3, .int (x3)), (4, .int (x4))]) dX11_sure_82 (Nat.le_of_ble_eq_true rfl) rfl ?_
      refine aj_iconst (v := (0 : Int32)) dX11_sure_84 (by decide) ?_
      refine aj_istore (ls2 := [(7, .int ((0 : Int32))), (5, .long ((1 : Int64))), (1, .int (x1)), (2, .int (x2)), (3, .int (x3)), (4, .int (x4))]) dX11_sure_85 (Nat.le_of_ble_eq_true rfl) rfl ?_
      refine AJ.sub [2, 3, 4, 5, 1, 0] rfl ?_
      exact t_X11_sure_87 w S zfu (x1) (x2) (x3) (x4) ((1 : Int64)) ((0 : Int32)) M
    refine aj_iload_n (2) dX11_sure_48 rfl rfl ?_
    refine aj_iload (4) dX11_sure_49 rfl ?_
    refine aj_irem dX11_sure_51 ?_
    refine aj_if_ne (tgt := 75) dX11_sure_52 (by decide) (fun h => ?_) (fun h => ?_)
    · refine aj_iinc (j := 4) (v := (x5 + (-1 : Int32))) (ls2 := [(5, .int ((x5 + (-1 : Int32)))), (1, .int (x1)), (2, .int (x2)), (3, .int (x3)), (4, .int (x4))]) dX11_sure_75 rfl rfl (Nat.le_of_ble_eq_true rfl) rfl ?_
      refine aj_goto (tgt := 42) dX11_sure_78 (by decide) ?_
      refine AJ.sub [1, 2, 3, 4, 0] rfl ?_
      exact ih (x1) (x2) (x3) (x4) ((x5 + (-1 : Int32))) M
    refine aj_iload (3) dX11_sure_55 rfl ?_
    refine aj_iload (4) dX11_sure_57 rfl ?_
    refine aj_irem dX11_sure_59 ?_
    refine aj_if_ne (tgt := 75) dX11_sure_60 (by decide) (fun h => ?_) (fun h => ?_)
    · refine aj_iinc (j := 4) (v := (x5 + (-1 : Int32))) (ls2 := [(5, .int ((x5 + (-1 : Int32)))), (1, .int (x1)), (2, .int (x2)), (3, .int (x3)), (4, .int (x4))]) dX11_sure_75 rfl rfl (Nat.le_of_ble_eq_true rfl) rfl ?_
      refine aj_goto (tgt := 42) dX11_sure_78 (by decide) ?_
      refine AJ.sub [1, 2, 3, 4, 0] rfl ?_
      exact ih (x1) (x2) (x3) (x4) ((x5 + (-1 : Int32))) M
    refine aj_iload_n (2) dX11_sure_63 rfl rfl ?_
    refine aj_iload (4) dX11_sure_64 rfl ?_
    refine aj_idiv dX11_sure_66 ?_
    refine aj_istore_n (ls2 := [(3, .int ((x3 / x5))), (1, .int (x1)), (2, .int (x2)), (4, .int (x4)), (5, .int (x5))]) dX11_sure_67 rfl (Nat.le_of_ble_eq_true rfl) rfl ?_
    refine aj_iload (3) dX11_sure_68 rfl ?_
    refine aj_iload (4) dX11_sure_70 rfl ?_
    refine aj_idiv dX11_sure_72 ?_
    refine aj_istore (ls2 := [(4, .int ((x4 / x5))), (3, .int ((x3 / x5))), (1, .int (x1)), (2, .int (x2)), (5, .int (x5))]) dX11_sure_73 (Nat.le_of_ble_eq_true rfl) rfl ?_
    refine aj_iinc (j := 4) (v := (x5 + (-1 : Int32))) (ls2 := [(5, .int ((x5 + (-1 : Int32)))), (4, .int ((x4 / x5))), (3, .int ((x3 / x5))), (1, .int (x1)), (2, .int (x2))]) dX11_sure_75 rfl rfl (Nat.le_of_ble_eq_true rfl) rfl ?_
    refine aj_goto (tgt := 42) dX11_sure_78 (by decide) ?_
    refine AJ.sub [3, 4, 2, 1, 0] rfl ?_
    exact ih (x1) (x2) ((x3 / x5)) ((x4 / x5)) ((x5 + (-1 : Int32))) M
def gX11_sure (S : List (Nat × Nat)) (p0 : Nat) (x1 : Int32) (x2 : Int32) (M : zM) : Option Int64 := (if x1 < 0 then some ((-1 : Int64)) else (if (6 : Int32) < x1 then some ((-1 : Int64)) else (if x2 < 0 then some ((-1 : Int64)) else (if x2 ≤ (1 : Int32) then zgR S M (p0) 11 14 3 (fun r1 => zgI S M (r1) 10 18 15 (fun v2 => gX11_sure_42 S zfu (x1) (x2) (((100 : Int32) - v2)) ((100 : Int32)) ((100 : Int32)) M)) else some ((-1 : Int64))))))
set_option maxHeartbeats 4000000 in
set_option maxRecDepth 100000 in
theorem c_X11_sure (w : zWd) (S : List (Nat × Nat)) (p0 : Nat) (x1 : Int32) (x2 : Int32) (M : zM) : CT (zfJ S M) w 1 mX11_sure [.ref (p0), .int (x1), .int (x2)] (S, M) (gX11_sure S p0 x1 x2 M) := by
  refine CT.of (by decide) (Nat.le_of_ble_eq_true rfl) ?_
  show AJ _ _ _ _ 0 [(0, .ref (p0)), (1, .int (x1)), (2, .int (x2))] [] _ _
  unfold gX11_sure
  refine aj_iload_n (1) dX11_sure_0 rfl rfl ?_
  refine aj_if_lt (tgt := 19) dX11_sure_1 (by decide) (fun h => ?_) (fun h => ?_)
  · refine aj_ldc2 (v := (-1 : Int64)) dX11_sure_19 zg_1138 ?_
    exact aj_lret dX11_sure_22 rfl rfl
  refine aj_iload_n (1) dX11_sure_4 rfl rfl ?_
  refine aj_bipush (v := (6 : Int32)) dX11_sure_5 (by decide) ?_
  refine aj_icmp_gt (tgt := 19) dX11_sure_7 (by decide) (fun h => ?_) (fun h => ?_)
  · refine aj_ldc2 (v := (-1 : Int64)) dX11_sure_19 zg_1138 ?_
    exact aj_lret dX11_sure_22 rfl rfl
  refine aj_iload_n (2) dX11_sure_10 rfl rfl ?_
  refine aj_if_lt (tgt := 19) dX11_sure_11 (by decide) (fun h => ?_) (fun h => ?_)
  · refine aj_ldc2 (v := (-1 : Int64)) dX11_sure_19 zg_1138 ?_
    exact aj_lret dX11_sure_22 rfl rfl
  refine aj_iload_n (2) dX11_sure_14 rfl rfl ?_
  refine aj_iconst (v := (1 : Int32)) dX11_sure_15 (by decide) ?_
  refine aj_icmp_le (tgt := 23) dX11_sure_16 (by decide) (fun h => ?_) (fun h => ?_)
  · refine aj_bipush (v := (100 : Int32)) dX11_sure_23 (by decide) ?_
    refine aj_aload_n (0) dX11_sure_25 rfl rfl ?_
    refine aj_getR (TX := TX11) zc11 (by decide) rfl (Or.inl zg_563) dX11_sure_26 (fun r1 => ?_)
    refine r_getI (TX := TX10) zc10 (by decide) rfl (Or.inr ⟨_, zn_237⟩) dX11_sure_29 (fun v2 => ?_)
    refine aj_isub dX11_sure_32 ?_
    refine aj_istore_n (ls2 := [(3, .int (((100 : Int32) - v2))), (0, .ref (p0)), (1, .int (x1)), (2, .int (x2))]) dX11_sure_33 rfl (Nat.le_of_ble_eq_true rfl) rfl ?_
    refine aj_bipush (v := (100 : Int32)) dX11_sure_34 (by decide) ?_
    refine aj_istore (ls2 := [(4, .int ((100 : Int32))), (3, .int (((100 : Int32) - v2))), (0, .ref (p0)), (1, .int (x1)), (2, .int (x2))]) dX11_sure_36 (Nat.le_of_ble_eq_true rfl) rfl ?_
    refine aj_bipush (v := (100 : Int32)) dX11_sure_38 (by decide) ?_
    refine aj_istore (ls2 := [(5, .int ((100 : Int32))), (4, .int ((100 : Int32))), (3, .int (((100 : Int32) - v2))), (0, .ref (p0)), (1, .int (x1)), (2, .int (x2))]) dX11_sure_40 (Nat.le_of_ble_eq_true rfl) rfl ?_
    refine AJ.sub [4, 5, 2, 1, 0] rfl ?_
    exact t_X11_sure_42 w S zfu (x1) (x2) (((100 : Int32) - v2)) ((100 : Int32)) ((100 : Int32)) M
  refine aj_ldc2 (v := (-1 : Int64)) dX11_sure_19 zg_1138 ?_
  exact aj_lret dX11_sure_22 rfl rfl
def gX11_note (S : List (Nat × Nat)) (p0 : Nat) (x1 : Int32) (x2 : Int32) (x3 : Int32) (M : zM) : Option (Int32 × zM) := (if x1 < (1 : Int32) then some ((-1 : Int32), M) else (if (60 : Int32) < x1 then some ((-1 : Int32), M) else (if x2 < 0 then some ((-1 : Int32), M) else (if x2 ≤ (24 : Int32) then zgR S M (p0) 11 14 10 (fun r1 => (if x3 = 0 then zrc S (r1) 2 10 (zb2 (gX2_add S (r1) ((1 : Int32)) (x1) (x2) M) (fun v2 M3 => some (v2, M3))) else zrc S (r1) 2 10 (zb2 (gX2_add S (r1) ((0 : Int32)) (x1) (x2) M) (fun v4 M5 => some (v4, M5))))) else some ((-1 : Int32), M)))))
set_option maxHeartbeats 4000000 in
set_option maxRecDepth 100000 in
theorem c_X11_note (w : zWd) (S : List (Nat × Nat)) (p0 : Nat) (x1 : Int32) (x2 : Int32) (x3 : Int32) (M : zM) : CT (zfIM S) w 3 mX11_note [.ref (p0), .int (x1), .int (x2), .int (x3)] (S, M) (gX11_note S p0 x1 x2 x3 M) := by
  refine CT.of (by decide) (Nat.le_of_ble_eq_true rfl) ?_
  show AJ _ _ _ _ 0 [(0, .ref (p0)), (1, .int (x1)), (2, .int (x2)), (3, .int (x3))] [] _ _
  unfold gX11_note
  refine aj_iload_n (1) dX11_note_0 rfl rfl ?_
  refine aj_iconst (v := (1 : Int32)) dX11_note_1 (by decide) ?_
  refine aj_icmp_lt (tgt := 21) dX11_note_2 (by decide) (fun h => ?_) (fun h => ?_)
  · refine aj_iconst (v := (-1 : Int32)) dX11_note_21 (by decide) ?_
    exact aj_iret dX11_note_22 rfl rfl rfl
  refine aj_iload_n (1) dX11_note_5 rfl rfl ?_
  refine aj_bipush (v := (60 : Int32)) dX11_note_6 (by decide) ?_
  refine aj_icmp_gt (tgt := 21) dX11_note_8 (by decide) (fun h => ?_) (fun h => ?_)
  · refine aj_iconst (v := (-1 : Int32)) dX11_note_21 (by decide) ?_
    exact aj_iret dX11_note_22 rfl rfl rfl
  refine aj_iload_n (2) dX11_note_11 rfl rfl ?_
  refine aj_if_lt (tgt := 21) dX11_note_12 (by decide) (fun h => ?_) (fun h => ?_)
  · refine aj_iconst (v := (-1 : Int32)) dX11_note_21 (by decide) ?_
    exact aj_iret dX11_note_22 rfl rfl rfl
  refine aj_iload_n (2) dX11_note_15 rfl rfl ?_
  refine aj_bipush (v := (24 : Int32)) dX11_note_16 (by decide) ?_
  refine aj_icmp_le (tgt := 23) dX11_note_18 (by decide) (fun h => ?_) (fun h => ?_)
  · refine aj_aload_n (0) dX11_note_23 rfl rfl ?_
    refine aj_getR (TX := TX11) zc11 (by decide) rfl (Or.inl zg_570) dX11_note_24 (fun r1 => ?_)
    refine aj_iload_n (3) dX11_note_27 rfl rfl ?_
    refine aj_if_eq (tgt := 35) dX11_note_28 (by decide) (fun h => ?_) (fun h => ?_)
    · refine aj_iconst (v := (1 : Int32)) dX11_note_35 (by decide) ?_
      refine aj_iload_n (1) dX11_note_36 rfl rfl ?_
      refine aj_iload_n (2) dX11_note_37 rfl rfl ?_
      refine rV_IM (as := [.int ((1 : Int32)), .int (x1), .int (x2)]) (c_X2_add w S _ _ _ _ _) mv_X2_add rfl zg_1143 (by decide) (Nat.le_of_ble_eq_true rfl) dX11_note_38 (fun v2 M3 => ?_)
      exact aj_iret dX11_note_41 rfl rfl rfl
    refine aj_iconst (v := (0 : Int32)) dX11_note_31 (by decide) ?_
    refine aj_goto (tgt := 36) dX11_note_32 (by decide) ?_
    refine aj_iload_n (1) dX11_note_36 rfl rfl ?_
    refine aj_iload_n (2) dX11_note_37 rfl rfl ?_
    refine rV_IM (as := [.int ((0 : Int32)), .int (x1), .int (x2)]) (c_X2_add w S _ _ _ _ _) mv_X2_add rfl zg_1143 (by decide) (Nat.le_of_ble_eq_true rfl) dX11_note_38 (fun v4 M5 => ?_)
    exact aj_iret dX11_note_41 rfl rfl rfl
  refine aj_iconst (v := (-1 : Int32)) dX11_note_21 (by decide) ?_
  exact aj_iret dX11_note_22 rfl rfl rfl
def gX11_strike (S : List (Nat × Nat)) (p0 : Nat) (x1 : Int32) (M : zM) : Option (Int32 × zM) := (if x1 < 0 then some ((-1 : Int32), M) else zgR S M (p0) 11 14 10 (fun r1 => zgI S M (r1) 2 10 6 (fun v2 => (if x1 < v2 then zgR S M (p0) 11 14 10 (fun r3 => zrc S (r3) 2 10 (zb2 (gX2_add S (r3) ((2 : Int32)) (x1) ((0 : Int32)) M) (fun v4 M5 => some (v4, M5)))) else some ((-1 : Int32), M)))))
set_option maxHeartbeats 4000000 in
set_option maxRecDepth 100000 in
theorem c_X11_strike (w : zWd) (S : List (Nat × Nat)) (p0 : Nat) (x1 : Int32) (M : zM) : CT (zfIM S) w 3 mX11_strike [.ref (p0), .int (x1)] (S, M) (gX11_strike S p0 x1 M) := by
  refine CT.of (by decide) (Nat.le_of_ble_eq_true rfl) ?_
  show AJ _ _ _ _ 0 [(0, .ref (p0)), (1, .int (x1))] [] _ _
  unfold gX11_strike
  refine aj_iload_n (1) dX11_strike_0 rfl rfl ?_
  refine aj_if_lt (tgt := 15) dX11_strike_1 (by decide) (fun h => ?_) (fun h => ?_)
  · refine aj_iconst (v := (-1 : Int32)) dX11_strike_15 (by decide) ?_
    exact aj_iret dX11_strike_16 rfl rfl rfl
  refine aj_iload_n (1) dX11_strike_4 rfl rfl ?_
  refine aj_aload_n (0) dX11_strike_5 rfl rfl ?_
  refine aj_getR (TX := TX11) zc11 (by decide) rfl (Or.inl zg_570) dX11_strike_6 (fun r1 => ?_)
  refine r_getI (TX := TX2) zc2 (by decide) rfl (Or.inr ⟨_, zn_453⟩) dX11_strike_9 (fun v2 => ?_)
  refine aj_icmp_lt (tgt := 17) dX11_strike_12 (by decide) (fun h => ?_) (fun h => ?_)
  · refine aj_aload_n (0) dX11_strike_17 rfl rfl ?_
    refine aj_getR (TX := TX11) zc11 (by decide) rfl (Or.inl zg_570) dX11_strike_18 (fun r3 => ?_)
    refine aj_iconst (v := (2 : Int32)) dX11_strike_21 (by decide) ?_
    refine aj_iload_n (1) dX11_strike_22 rfl rfl ?_
    refine aj_iconst (v := (0 : Int32)) dX11_strike_23 (by decide) ?_
    refine rV_IM (as := [.int ((2 : Int32)), .int (x1), .int ((0 : Int32))]) (c_X2_add w S _ _ _ _ _) mv_X2_add rfl zg_1143 (by decide) (Nat.le_of_ble_eq_true rfl) dX11_strike_24 (fun v4 M5 => ?_)
    exact aj_iret dX11_strike_27 rfl rfl rfl
  refine aj_iconst (v := (-1 : Int32)) dX11_strike_15 (by decide) ?_
  exact aj_iret dX11_strike_16 rfl rfl rfl
def gX11_toldBy (S : List (Nat × Nat)) (p0 : Nat) (x1 : Int32) (M : zM) : Option (Int32 × zM) := (if x1 < (-1 : Int32) then some ((0 : Int32), M) else zgR S M (p0) 11 14 10 (fun r1 => zgI S M (r1) 2 10 6 (fun v2 => (if x1 ≤ v2 then zgR S M (p0) 11 14 10 (fun r3 => zpI S M (r3) 2 10 7 (x1) (fun M4 => some ((1 : Int32), M4))) else some ((0 : Int32), M)))))
set_option maxHeartbeats 4000000 in
set_option maxRecDepth 100000 in
theorem c_X11_toldBy (w : zWd) (S : List (Nat × Nat)) (p0 : Nat) (x1 : Int32) (M : zM) : CT (zfIM S) w 1 mX11_toldBy [.ref (p0), .int (x1)] (S, M) (gX11_toldBy S p0 x1 M) := by
  refine CT.of (by decide) (Nat.le_of_ble_eq_true rfl) ?_
  show AJ _ _ _ _ 0 [(0, .ref (p0)), (1, .int (x1))] [] _ _
  unfold gX11_toldBy
  refine aj_iload_n (1) dX11_toldBy_0 rfl rfl ?_
  refine aj_iconst (v := (-1 : Int32)) dX11_toldBy_1 (by decide) ?_
  refine aj_icmp_lt (tgt := 16) dX11_toldBy_2 (by decide) (fun h => ?_) (fun h => ?_)
  · refine aj_iconst (v := (0 : Int32)) dX11_toldBy_16 (by decide) ?_
    exact aj_iret dX11_toldBy_17 rfl (by decide +kernel) rfl
  refine aj_iload_n (1) dX11_toldBy_5 rfl rfl ?_
  refine aj_aload_n (0) dX11_toldBy_6 rfl rfl ?_
  refine aj_getR (TX := TX11) zc11 (by decide) rfl (Or.inl zg_570) dX11_toldBy_7 (fun r1 => ?_)
  refine r_getI (TX := TX2) zc2 (by decide) rfl (Or.inr ⟨_, zn_453⟩) dX11_toldBy_10 (fun v2 => ?_)
  refine aj_icmp_le (tgt := 18) dX11_toldBy_13 (by decide) (fun h => ?_) (fun h => ?_)
  · refine aj_aload_n (0) dX11_toldBy_18 rfl rfl ?_
    refine aj_getR (TX := TX11) zc11 (by decide) rfl (Or.inl zg_570) dX11_toldBy_19 (fun r3 => ?_)
    refine aj_iload_n (1) dX11_toldBy_22 rfl rfl ?_
    refine r_putI (TX := TX2) zc2 (by decide) rfl rfl rfl rfl (Or.inr ⟨_, zn_455⟩) dX11_toldBy_23 (fun M4 => ?_)
    refine aj_iconst (v := (1 : Int32)) dX11_toldBy_26 (by decide) ?_
    exact aj_iret dX11_toldBy_27 rfl (by decide +kernel) rfl
  refine aj_iconst (v := (0 : Int32)) dX11_toldBy_16 (by decide) ?_
  exact aj_iret dX11_toldBy_17 rfl (by decide +kernel) rfl
def gX11_watchHours_67 (S : List (Nat × Nat)) (k33 : Nat → Int32 → Int32 → Int32 → zM → Option zM) : Nat → Nat → Int32 → Int32 → Int32 → Int32 → zM → Option zM
  | 0 => fun _ _ _ _ _ _ => none
  | n + 1 => fun p0 x1 x3 x4 x5 M => (if x3 < x5 then k33 (p0) (x1) (x3) ((x4 + (1 : Int32))) M else zgR S M (p0) 11 14 9 (fun r1 => zgR S M (p0) 11 14 6 (fun r2 => zrc S (r1) 0 6 ((gX0_dayGoes S (r1) (r2) M).bind (fun M3 => zgR S M3 (p0) 11 14 10 (fun r4 => zgR S M3 (p0) 11 14 6 (fun r5 => zgI S M3 (r5) 7 15 4 (fun v6 => zrc S (r4) 2 10 ((gX2_sees S (r4) (x4) (x5) (v6) M3).bind (fun M7 => (gX11_watchHours_67 S  k33 n) (p0) (x1) (x3) (x4) ((x5 + (1 : Int32))) M7))))))))))
set_option maxHeartbeats 4000000 in
set_option maxRecDepth 100000 in
theorem t_X11_watchHours_67 (w : zWd) (S : List (Nat × Nat)) (k33 : Nat → Int32 → Int32 → Int32 → zM → Option zM) (hk33 : ∀ (p0 : Nat) (x1 : Int32) (x3 : Int32) (x4 : Int32) (M : zM), AJ (zfVM S) w 7 mX11_watchHours 33 [(0, .ref (p0)), (1, .int (x1)), (3, .int (x3)), (4, .int (x4))] [] (S, M) (k33 p0 x1 x3 x4 M)) (fu : Nat) : ∀ (p0 : Nat) (x1 : Int32) (x3 : Int32) (x4 : Int32) (x5 : Int32) (M : zM), AJ (zfVM S) w 7 mX11_watchHours 67 [(0, .ref (p0)), (1, .int (x1)), (3, .int (x3)), (4, .int (x4)), (5, .int (x5))] [] (S, M) (gX11_watchHours_67 S k33 fu p0 x1 x3 x4 x5 M) := by
  induction fu with
  | zero => intro p0 x1 x3 x4 x5 M; exact AJ.none
  | succ n ih =>
    intro p0 x1 x3 x4 x5 M
    unfold gX11_watchHours_67
    refine aj_iload (4) dX11_watchHours_67 rfl ?_
    refine aj_iload_n (2) dX11_watchHours_69 rfl rfl ?_
    refine aj_icmp_gt (tgt := 108) dX11_watchHours_70 (by decide) (fun h => ?_) (fun h => ?_)
    · refine aj_iinc (j := 3) (v := (x4 + (1 : Int32))) (ls2 := [(4, .int ((x4 + (1 : Int32)))), (0, .ref (p0)), (1, .int (x1)), (3, .int (x3)), (5, .int (x5))]) dX11_watchHours_108 rfl rfl (Nat.le_of_ble_eq_true rfl) rfl ?_
      refine aj_goto (tgt := 33) dX11_watchHours_111 (by decide) ?_
      refine AJ.sub [1, 2, 3, 0] rfl ?_
      exact hk33 (p0) (x1) (x3) ((x4 + (1 : Int32))) M
    refine aj_aload_n (0) dX11_watchHours_73 rfl rfl ?_
    refine aj_getR (TX := TX11) zc11 (by decide) rfl (Or.inl zg_569) dX11_watchHours_74 (fun r1 => ?_)
    refine aj_aload_n (0) dX11_watchHours_77 rfl rfl ?_
    refine aj_getR (TX := TX11) zc11 (by decide) rfl (Or.inl zg_566) dX11_watchHours_78 (fun r2 => ?_)
    refine rV_VM (as := [.ref (r2)]) (c_X0_dayGoes w S _ _ _) mv_X0_dayGoes rfl zg_980 (by decide) (Nat.le_of_ble_eq_true rfl) dX11_watchHours_81 (fun M3 => ?_)
    refine aj_aload_n (0) dX11_watchHours_84 rfl rfl ?_
    refine aj_getR (TX := TX11) zc11 (by decide) rfl (Or.inl zg_570) dX11_watchHours_85 (fun r4 => ?_)
    refine aj_iload (3) dX11_watchHours_88 rfl ?_
    refine aj_iload (4) dX11_watchHours_90 rfl ?_
    refine aj_aload_n (0) dX11_watchHours_92 rfl rfl ?_
    refine aj_getR (TX := TX11) zc11 (by decide) rfl (Or.inl zg_566) dX11_watchHours_93 (fun r5 => ?_)
    refine r_getI (TX := TX7) zc7 (by decide) rfl (Or.inr ⟨_, zn_342⟩) dX11_watchHours_96 (fun v6 => ?_)
    refine rV_VM (as := [.int (x4), .int (x5), .int (v6)]) (c_X2_sees w S _ _ _ _ _) mv_X2_sees rfl zg_1183 (by decide) (Nat.le_of_ble_eq_true rfl) dX11_watchHours_99 (fun M7 => ?_)
    refine aj_iinc (j := 4) (v := (x5 + (1 : Int32))) (ls2 := [(5, .int ((x5 + (1 : Int32)))), (0, .ref (p0)), (1, .int (x1)), (3, .int (x3)), (4, .int (x4))]) dX11_watchHours_102 rfl rfl (Nat.le_of_ble_eq_true rfl) rfl ?_
    refine aj_goto (tgt := 67) dX11_watchHours_105 (by decide) ?_
    refine AJ.sub [1, 2, 3, 4, 0] rfl ?_
    exact ih (p0) (x1) (x3) (x4) ((x5 + (1 : Int32))) M7
def gX11_watchHours_33 (S : List (Nat × Nat)) : Nat → Nat → Int32 → Int32 → Int32 → zM → Option zM
  | 0 => fun _ _ _ _ _ => none
  | n + 1 => fun p0 x1 x3 x4 M => (if (24 : Int32) ≤ x4 then some M else zgR S M (p0) 11 14 9 (fun r1 => zgR S M (r1) 0 6 1 (fun r2 => zrc S (r2) 5 1 ((gX5_set S (r2) (x1) (x4) M).bind (fun M3 => zgR S M3 (p0) 11 14 6 (fun r4 => zgR S M3 (p0) 11 14 3 (fun r5 => zrc S (r4) 7 15 ((gX7_starts S (r4) (r5) M3).bind (fun M6 => gX11_watchHours_67 S (gX11_watchHours_33 S   n) zfu (p0) (x1) (x3) (x4) ((1 : Int32)) M6)))))))))
set_option maxHeartbeats 4000000 in
set_option maxRecDepth 100000 in
theorem t_X11_watchHours_33 (w : zWd) (S : List (Nat × Nat)) (fu : Nat) : ∀ (p0 : Nat) (x1 : Int32) (x3 : Int32) (x4 : Int32) (M : zM), AJ (zfVM S) w 7 mX11_watchHours 33 [(0, .ref (p0)), (1, .int (x1)), (3, .int (x3)), (4, .int (x4))] [] (S, M) (gX11_watchHours_33 S fu p0 x1 x3 x4 M) := by
  induction fu with
  | zero => intro p0 x1 x3 x4 M; exact AJ.none
  | succ n ih =>
    intro p0 x1 x3 x4 M
    unfold gX11_watchHours_33
    refine aj_iload (3) dX11_watchHours_33 rfl ?_
    refine aj_bipush (v := (24 : Int32)) dX11_watchHours_35 (by decide) ?_
    refine aj_icmp_ge (tgt := 114) dX11_watchHours_37 (by decide) (fun h => ?_) (fun h => ?_)
    · exact aj_vret dX11_watchHours_114 rfl rfl
    refine aj_aload_n (0) dX11_watchHours_40 rfl rfl ?_
    refine aj_getR (TX := TX11) zc11 (by decide) rfl (Or.inl zg_569) dX11_watchHours_41 (fun r1 => ?_)
    refine aj_getR (TX := TX0) zc0 (by decide) rfl (Or.inr ⟨_, zn_419⟩) dX11_watchHours_44 (fun r2 => ?_)
    refine aj_iload_n (1) dX11_watchHours_47 rfl rfl ?_
    refine aj_iload (3) dX11_watchHours_48 rfl ?_
    refine rV_VM (as := [.int (x1), .int (x4)]) (c_X5_set w S _ _ _ _) mv_X5_set rfl zg_611 (by decide) (Nat.le_of_ble_eq_true rfl) dX11_watchHours_50 (fun M3 => ?_)
    refine aj_aload_n (0) dX11_watchHours_53 rfl rfl ?_
    refine aj_getR (TX := TX11) zc11 (by decide) rfl (Or.inl zg_566) dX11_watchHours_54 (fun r4 => ?_)
    refine aj_aload_n (0) dX11_watchHours_57 rfl rfl ?_
    refine aj_getR (TX := TX11) zc11 (by decide) rfl (Or.inl zg_563) dX11_watchHours_58 (fun r5 => ?_)
    refine rV_VM (as := [.ref (r5)]) (c_X7_starts w S _ _ _) mv_X7_starts rfl zg_794 (by decide) (Nat.le_of_ble_eq_true rfl) dX11_watchHours_61 (fun M6 => ?_)
    refine aj_iconst (v := (1 : Int32)) dX11_watchHours_64 (by decide) ?_
    refine aj_istore (ls2 := [(5, .int ((1 : Int32))), (0, .ref (p0)), (1, .int (x1)), (3, .int (x3)), (4, .int (x4))]) dX11_watchHours_65 (Nat.le_of_ble_eq_true rfl) rfl ?_
    refine AJ.sub [1, 2, 3, 4, 0] rfl ?_
    exact t_X11_watchHours_67 w S (gX11_watchHours_33 S   n) ih zfu (p0) (x1) (x3) (x4) ((1 : Int32)) M6
def gX11_watchHours (S : List (Nat × Nat)) (p0 : Nat) (x1 : Int32) (x2 : Int32) (M : zM) : Option zM := zgR S M (p0) 11 14 9 (fun r1 => zgR S M (p0) 11 14 3 (fun r2 => zrc S (r1) 0 6 ((gX0_goesOf S (r1) (r2) M).bind (fun M3 => zgR S M3 (p0) 11 14 10 (fun r4 => zrc S (r4) 2 10 ((gX2_strikeOut S (r4) M3).bind (fun M5 => zgR S M5 (p0) 11 14 10 (fun r6 => zrc S (r6) 2 10 ((gX2_longest S (r6) M5).bind (fun v7 => gX11_watchHours_33 S zfu (p0) (x1) ((if x2 < v7 then v7 else x2)) ((0 : Int32)) M5))))))))))
set_option maxHeartbeats 4000000 in
set_option maxRecDepth 100000 in
theorem c_X11_watchHours (w : zWd) (S : List (Nat × Nat)) (p0 : Nat) (x1 : Int32) (x2 : Int32) (M : zM) : CT (zfVM S) w 7 mX11_watchHours [.ref (p0), .int (x1), .int (x2)] (S, M) (gX11_watchHours S p0 x1 x2 M) := by
  refine CT.of (by decide) (Nat.le_of_ble_eq_true rfl) ?_
  show AJ _ _ _ _ 0 [(0, .ref (p0)), (1, .int (x1)), (2, .int (x2))] [] _ _
  unfold gX11_watchHours
  refine aj_aload_n (0) dX11_watchHours_0 rfl rfl ?_
  refine aj_getR (TX := TX11) zc11 (by decide) rfl (Or.inl zg_569) dX11_watchHours_1 (fun r1 => ?_)
  refine aj_aload_n (0) dX11_watchHours_4 rfl rfl ?_
  refine aj_getR (TX := TX11) zc11 (by decide) rfl (Or.inl zg_563) dX11_watchHours_5 (fun r2 => ?_)
  refine rV_VM (as := [.ref (r2)]) (c_X0_goesOf w S _ _ _) mv_X0_goesOf rfl zg_851 (by decide) (Nat.le_of_ble_eq_true rfl) dX11_watchHours_8 (fun M3 => ?_)
  refine aj_aload_n (0) dX11_watchHours_11 rfl rfl ?_
  refine aj_getR (TX := TX11) zc11 (by decide) rfl (Or.inl zg_570) dX11_watchHours_12 (fun r4 => ?_)
  refine rV_VM (as := []) (c_X2_strikeOut w S _ _) mv_X2_strikeOut rfl zg_1164 (by decide) (Nat.le_of_ble_eq_true rfl) dX11_watchHours_15 (fun M5 => ?_)
  refine aj_iload_n (2) dX11_watchHours_18 rfl rfl ?_
  refine aj_aload_n (0) dX11_watchHours_19 rfl rfl ?_
  refine aj_getR (TX := TX11) zc11 (by decide) rfl (Or.inl zg_570) dX11_watchHours_20 (fun r6 => ?_)
  refine rV_I (as := []) (c_X2_longest w S _ _) mv_X2_longest rfl zg_1174 (by decide) (Nat.le_of_ble_eq_true rfl) dX11_watchHours_23 (fun v7 => ?_)
  refine aj_mmax zg_1001 zg_40 zg_3 zg_41 (by decide) (Nat.le_of_ble_eq_true rfl) dX11_watchHours_26 ?_
  refine aj_istore_n (ls2 := [(3, .int ((if x2 < v7 then v7 else x2))), (0, .ref (p0)), (1, .int (x1)), (2, .int (x2))]) dX11_watchHours_29 rfl (Nat.le_of_ble_eq_true rfl) rfl ?_
  refine aj_iconst (v := (0 : Int32)) dX11_watchHours_30 (by decide) ?_
  refine aj_istore (ls2 := [(4, .int ((0 : Int32))), (3, .int ((if x2 < v7 then v7 else x2))), (0, .ref (p0)), (1, .int (x1)), (2, .int (x2))]) dX11_watchHours_31 (Nat.le_of_ble_eq_true rfl) rfl ?_
  refine AJ.sub [2, 3, 1, 0] rfl ?_
  exact t_X11_watchHours_33 w S zfu (p0) (x1) ((if x2 < v7 then v7 else x2)) ((0 : Int32)) M5
def gX11_hours (S : List (Nat × Nat)) (p0 : Nat) (x1 : Int32) (M : zM) : Option (Int32 × zM) := zgR S M (p0) 11 14 3 (fun r1 => zrc S (r1) 10 18 ((gX10_hasTrade S (r1) (x1) M).bind (fun v2 => (if v2 = 0 then some ((-1 : Int32), M) else zrc S (p0) 11 14 ((gX11_watchHours S (p0) (x1) ((0 : Int32)) M).bind (fun M3 => zgR S M3 (p0) 11 14 10 (fun r4 => zrc S (r4) 2 10 ((gX2_fitting S (r4) M3).bind (fun v5 => some (v5, M3))))))))))
set_option maxHeartbeats 4000000 in
set_option maxRecDepth 100000 in
theorem c_X11_hours (w : zWd) (S : List (Nat × Nat)) (p0 : Nat) (x1 : Int32) (M : zM) : CT (zfIM S) w 8 mX11_hours [.ref (p0), .int (x1)] (S, M) (gX11_hours S p0 x1 M) := by
  refine CT.of (by decide) (Nat.le_of_ble_eq_true rfl) ?_
  show AJ _ _ _ _ 0 [(0, .ref (p0)), (1, .int (x1))] [] _ _
  unfold gX11_hours
  refine aj_aload_n (0) dX11_hours_0 rfl rfl ?_
  refine aj_getR (TX := TX11) zc11 (by decide) rfl (Or.inl zg_563) dX11_hours_1 (fun r1 => ?_)
  refine aj_iload_n (1) dX11_hours_4 rfl rfl ?_
  refine rV_I (as := [.int (x1)]) (c_X10_hasTrade w S _ _ _) mv_X10_hasTrade rfl zg_846 (by decide) (Nat.le_of_ble_eq_true rfl) dX11_hours_5 (fun v2 => ?_)
  refine aj_if_ne (tgt := 13) dX11_hours_8 (by decide) (fun h => ?_) (fun h => ?_)
  · refine aj_aload_n (0) dX11_hours_13 rfl rfl ?_
    refine aj_iload_n (1) dX11_hours_14 rfl rfl ?_
    refine aj_iconst (v := (0 : Int32)) dX11_hours_15 (by decide) ?_
    refine rV_VM (as := [.int (x1), .int ((0 : Int32))]) (c_X11_watchHours w S _ _ _ _) mv_X11_watchHours rfl zg_1160 (by decide) (Nat.le_of_ble_eq_true rfl) dX11_hours_16 (fun M3 => ?_)
    refine aj_aload_n (0) dX11_hours_19 rfl rfl ?_
    refine aj_getR (TX := TX11) zc11 (by decide) rfl (Or.inl zg_570) dX11_hours_20 (fun r4 => ?_)
    refine rV_I (as := []) (c_X2_fitting w S _ _) mv_X2_fitting rfl zg_1187 (by decide) (Nat.le_of_ble_eq_true rfl) dX11_hours_23 (fun v5 => ?_)
    exact aj_iret dX11_hours_26 rfl rfl rfl
  refine aj_iconst (v := (-1 : Int32)) dX11_hours_11 (by decide) ?_
  exact aj_iret dX11_hours_12 rfl rfl rfl
def gX11_ask (S : List (Nat × Nat)) (p0 : Nat) (x1 : Int32) (x2 : Int32) (M : zM) : Option (Int32 × zM) := zgR S M (p0) 11 14 3 (fun r1 => zrc S (r1) 10 18 ((gX10_hasTrade S (r1) (x1) M).bind (fun v2 => (if v2 = 0 then some ((-1 : Int32), M) else (if x2 < 0 then some ((-1 : Int32), M) else (if x2 ≤ (1 : Int32) then zrc S (p0) 11 14 ((gX11_watchHours S (p0) (x1) ((60 : Int32)) M).bind (fun M3 => zgR S M3 (p0) 11 14 10 (fun r4 => zgR S M3 (p0) 11 14 10 (fun r5 => zrc S (r5) 2 10 ((gX2_fitting S (r5) M3).bind (fun v6 => zrc S (r4) 2 10 ((gX2_seekQuestion S (r4) (v6) M3).bind (fun M7 => (if x2 = 0 then zgR S M7 (p0) 11 14 10 (fun r10 => zgI S M7 (r10) 2 10 8 (fun v11 => some (v11, M7))) else zgR S M7 (p0) 11 14 10 (fun r8 => zgI S M7 (r8) 2 10 9 (fun v9 => some (v9, M7)))))))))))) else some ((-1 : Int32), M)))))))
set_option maxHeartbeats 4000000 in
set_option maxRecDepth 100000 in
theorem c_X11_ask (w : zWd) (S : List (Nat × Nat)) (p0 : Nat) (x1 : Int32) (x2 : Int32) (M : zM) : CT (zfIM S) w 8 mX11_ask [.ref (p0), .int (x1), .int (x2)] (S, M) (gX11_ask S p0 x1 x2 M) := by
  refine CT.of (by decide) (Nat.le_of_ble_eq_true rfl) ?_
  show AJ _ _ _ _ 0 [(0, .ref (p0)), (1, .int (x1)), (2, .int (x2))] [] _ _
  unfold gX11_ask
  refine aj_aload_n (0) dX11_ask_0 rfl rfl ?_
  refine aj_getR (TX := TX11) zc11 (by decide) rfl (Or.inl zg_563) dX11_ask_1 (fun r1 => ?_)
  refine aj_iload_n (1) dX11_ask_4 rfl rfl ?_
  refine rV_I (as := [.int (x1)]) (c_X10_hasTrade w S _ _ _) mv_X10_hasTrade rfl zg_846 (by decide) (Nat.le_of_ble_eq_true rfl) dX11_ask_5 (fun v2 => ?_)
  refine aj_if_eq (tgt := 20) dX11_ask_8 (by decide) (fun h => ?_) (fun h => ?_)
  · refine aj_iconst (v := (-1 : Int32)) dX11_ask_20 (by decide) ?_
    exact aj_iret dX11_ask_21 rfl rfl rfl
  refine aj_iload_n (2) dX11_ask_11 rfl rfl ?_
  refine aj_if_lt (tgt := 20) dX11_ask_12 (by decide) (fun h => ?_) (fun h => ?_)
  · refine aj_iconst (v := (-1 : Int32)) dX11_ask_20 (by decide) ?_
    exact aj_iret dX11_ask_21 rfl rfl rfl
  refine aj_iload_n (2) dX11_ask_15 rfl rfl ?_
  refine aj_iconst (v := (1 : Int32)) dX11_ask_16 (by decide) ?_
  refine aj_icmp_le (tgt := 22) dX11_ask_17 (by decide) (fun h => ?_) (fun h => ?_)
  · refine aj_aload_n (0) dX11_ask_22 rfl rfl ?_
    refine aj_iload_n (1) dX11_ask_23 rfl rfl ?_
    refine aj_bipush (v := (60 : Int32)) dX11_ask_24 (by decide) ?_
    refine rV_VM (as := [.int (x1), .int ((60 : Int32))]) (c_X11_watchHours w S _ _ _ _) mv_X11_watchHours rfl zg_1160 (by decide) (Nat.le_of_ble_eq_true rfl) dX11_ask_26 (fun M3 => ?_)
    refine aj_aload_n (0) dX11_ask_29 rfl rfl ?_
    refine aj_getR (TX := TX11) zc11 (by decide) rfl (Or.inl zg_570) dX11_ask_30 (fun r4 => ?_)
    refine aj_aload_n (0) dX11_ask_33 rfl rfl ?_
    refine aj_getR (TX := TX11) zc11 (by decide) rfl (Or.inl zg_570) dX11_ask_34 (fun r5 => ?_)
    refine rV_I (as := []) (c_X2_fitting w S _ _) mv_X2_fitting rfl zg_1187 (by decide) (Nat.le_of_ble_eq_true rfl) dX11_ask_37 (fun v6 => ?_)
    refine rV_VM (as := [.int (v6)]) (c_X2_seekQuestion w S _ _ _) mv_X2_seekQuestion rfl zg_1204 (by decide) (Nat.le_of_ble_eq_true rfl) dX11_ask_40 (fun M7 => ?_)
    refine aj_iload_n (2) dX11_ask_43 rfl rfl ?_
    refine aj_if_ne (tgt := 57) dX11_ask_44 (by decide) (fun h => ?_) (fun h => ?_)
    · refine aj_aload_n (0) dX11_ask_57 rfl rfl ?_
      refine aj_getR (TX := TX11) zc11 (by decide) rfl (Or.inl zg_570) dX11_ask_58 (fun r8 => ?_)
      refine r_getI (TX := TX2) zc2 (by decide) rfl (Or.inr ⟨_, zn_459⟩) dX11_ask_61 (fun v9 => ?_)
      exact aj_iret dX11_ask_64 rfl rfl rfl
    refine aj_aload_n (0) dX11_ask_47 rfl rfl ?_
    refine aj_getR (TX := TX11) zc11 (by decide) rfl (Or.inl zg_570) dX11_ask_48 (fun r10 => ?_)
    refine r_getI (TX := TX2) zc2 (by decide) rfl (Or.inr ⟨_, zn_457⟩) dX11_ask_51 (fun v11 => ?_)
    refine aj_goto (tgt := 64) dX11_ask_54 (by decide) ?_
    exact aj_iret dX11_ask_64 rfl rfl rfl
  refine aj_iconst (v := (-1 : Int32)) dX11_ask_20 (by decide) ?_
  exact aj_iret dX11_ask_21 rfl rfl rfl
def gX11_chance_56 (S : List (Nat × Nat)) : Nat → Nat → Int32 → Int32 → Int32 → Int32 → Int32 → zM → Option (Int32 × zM)
  | 0 => fun _ _ _ _ _ _ _ => none
  | n + 1 => fun p0 x2 x3 x4 x5 x6 M => (if (10 : Int32) ≤ x6 then some (x5, M) else zgR S M (p0) 11 14 6 (fun r1 => zgR S M (p0) 11 14 5 (fun r2 => zrc S (r1) 7 15 ((gX7_copy S (r1) (r2) M).bind (fun M3 => zgR S M3 (p0) 11 14 6 (fun r4 => zpI S M3 (r4) 7 15 2 (x4) (fun M5 => zgR S M5 (p0) 11 14 9 (fun r6 => zgR S M5 (p0) 11 14 6 (fun r7 => zrc S (r6) 0 6 ((gX0_daysGo S (r6) (r7) (x2) M5).bind (fun M8 => zgR S M8 (p0) 11 14 6 (fun r9 => zgI S M8 (r9) 7 15 2 (fun v10 => zgR S M8 (p0) 11 14 6 (fun r11 => zgR S M8 (r11) 7 15 14 (fun r12 => zrc S (r12) 5 1 ((gX5_get S (r12) (x3) M8).bind (fun v13 => zgR S M8 (p0) 11 14 3 (fun r14 => zgR S M8 (r14) 10 18 14 (fun r15 => zrc S (r15) 5 1 ((gX5_get S (r15) (x3) M8).bind (fun v16 => (if v13 < v16 then (gX11_chance_56 S   n) (p0) (x2) (x3) (v10) (x5) ((x6 + (1 : Int32))) M8 else (gX11_chance_56 S   n) (p0) (x2) (x3) (v10) ((x5 + (1 : Int32))) ((x6 + (1 : Int32))) M8))))))))))))))))))))))
set_option maxHeartbeats 4000000 in
set_option maxRecDepth 100000 in
theorem t_X11_chance_56 (w : zWd) (S : List (Nat × Nat)) (fu : Nat) : ∀ (p0 : Nat) (x2 : Int32) (x3 : Int32) (x4 : Int32) (x5 : Int32) (x6 : Int32) (M : zM), AJ (zfIM S) w 8 mX11_chance 56 [(0, .ref (p0)), (2, .int (x2)), (3, .int (x3)), (4, .int (x4)), (5, .int (x5)), (6, .int (x6))] [] (S, M) (gX11_chance_56 S fu p0 x2 x3 x4 x5 x6 M) := by
  induction fu with
  | zero => intro p0 x2 x3 x4 x5 x6 M; exact AJ.none
  | succ n ih =>
    intro p0 x2 x3 x4 x5 x6 M
    unfold gX11_chance_56
    refine aj_iload (5) dX11_chance_56 rfl ?_
    refine aj_bipush (v := (10 : Int32)) dX11_chance_58 (by decide) ?_
    refine aj_icmp_ge (tgt := 138) dX11_chance_60 (by decide) (fun h => ?_) (fun h => ?_)
    · refine aj_iload (4) dX11_chance_138 rfl ?_
      exact aj_iret dX11_chance_140 rfl rfl rfl
    refine aj_aload_n (0) dX11_chance_63 rfl rfl ?_
    refine aj_getR (TX := TX11) zc11 (by decide) rfl (Or.inl zg_566) dX11_chance_64 (fun r1 => ?_)
    refine aj_aload_n (0) dX11_chance_67 rfl rfl ?_
    refine aj_getR (TX := TX11) zc11 (by decide) rfl (Or.inl zg_565) dX11_chance_68 (fun r2 => ?_)
    refine rV_VM (as := [.ref (r2)]) (c_X7_copy w S _ _ _) mv_X7_copy rfl zg_976 (by decide) (Nat.le_of_ble_eq_true rfl) dX11_chance_71 (fun M3 => ?_)
    refine aj_aload_n (0) dX11_chance_74 rfl rfl ?_
    refine aj_getR (TX := TX11) zc11 (by decide) rfl (Or.inl zg_566) dX11_chance_75 (fun r4 => ?_)
    refine aj_iload (3) dX11_chance_78 rfl ?_
    refine r_putI (TX := TX7) zc7 (by decide) rfl rfl rfl rfl (Or.inr ⟨_, zn_334⟩) dX11_chance_80 (fun M5 => ?_)
    refine aj_aload_n (0) dX11_chance_83 rfl rfl ?_
    refine aj_getR (TX := TX11) zc11 (by decide) rfl (Or.inl zg_569) dX11_chance_84 (fun r6 => ?_)
    refine aj_aload_n (0) dX11_chance_87 rfl rfl ?_
    refine aj_getR (TX := TX11) zc11 (by decide) rfl (Or.inl zg_566) dX11_chance_88 (fun r7 => ?_)
    refine aj_iload_n (1) dX11_chance_91 rfl rfl ?_
    refine rV_VM (as := [.ref (r7), .int (x2)]) (c_X0_daysGo w S _ _ _ _) mv_X0_daysGo rfl zg_927 (by decide) (Nat.le_of_ble_eq_true rfl) dX11_chance_92 (fun M8 => ?_)
    refine aj_aload_n (0) dX11_chance_95 rfl rfl ?_
    refine aj_getR (TX := TX11) zc11 (by decide) rfl (Or.inl zg_566) dX11_chance_96 (fun r9 => ?_)
    refine r_getI (TX := TX7) zc7 (by decide) rfl (Or.inr ⟨_, zn_334⟩) dX11_chance_99 (fun v10 => ?_)
    refine aj_istore (ls2 := [(4, .int (v10)), (0, .ref (p0)), (2, .int (x2)), (3, .int (x3)), (5, .int (x5)), (6, .int (x6))]) dX11_chance_102 (Nat.le_of_ble_eq_true rfl) rfl ?_
    refine aj_aload_n (1) dX11_chance_104 rfl rfl ?_
    refine aj_getR (TX := TX11) zc11 (by decide) rfl (Or.inl zg_566) dX11_chance_105 (fun r11 => ?_)
    refine aj_getR (TX := TX7) zc7 (by decide) rfl (Or.inr ⟨_, zn_375⟩) dX11_chance_108 (fun r12 => ?_)
    refine aj_iload_n (3) dX11_chance_111 rfl rfl ?_
    refine rV_I (as := [.int (x3)]) (c_X5_get w S _ _ _) mv_X5_get rfl zg_833 (by decide) (Nat.le_of_ble_eq_true rfl) dX11_chance_112 (fun v13 => ?_)
    refine aj_aload_n (1) dX11_chance_115 rfl rfl ?_
    refine aj_getR (TX := TX11) zc11 (by decide) rfl (Or.inl zg_563) dX11_chance_116 (fun r14 => ?_)
    refine aj_getR (TX := TX10) zc10 (by decide) rfl (Or.inr ⟨_, zn_232⟩) dX11_chance_119 (fun r15 => ?_)
    refine aj_iload_n (3) dX11_chance_122 rfl rfl ?_
    refine rV_I (as := [.int (x3)]) (c_X5_get w S _ _ _) mv_X5_get rfl zg_833 (by decide) (Nat.le_of_ble_eq_true rfl) dX11_chance_123 (fun v16 => ?_)
    refine aj_icmp_lt (tgt := 132) dX11_chance_126 (by decide) (fun h => ?_) (fun h => ?_)
    · refine aj_iinc (j := 5) (v := (x6 + (1 : Int32))) (ls2 := [(6, .int ((x6 + (1 : Int32)))), (4, .int (v10)), (0, .ref (p0)), (2, .int (x2)), (3, .int (x3)), (5, .int (x5))]) dX11_chance_132 rfl rfl (Nat.le_of_ble_eq_true rfl) rfl ?_
      refine aj_goto (tgt := 56) dX11_chance_135 (by decide) ?_
      refine AJ.sub [2, 3, 4, 1, 5, 0] rfl ?_
      exact ih (p0) (x2) (x3) (v10) (x5) ((x6 + (1 : Int32))) M8
    refine aj_iinc (j := 4) (v := (x5 + (1 : Int32))) (ls2 := [(5, .int ((x5 + (1 : Int32)))), (4, .int (v10)), (0, .ref (p0)), (2, .int (x2)), (3, .int (x3)), (6, .int (x6))]) dX11_chance_129 rfl rfl (Nat.le_of_ble_eq_true rfl) rfl ?_
    refine aj_iinc (j := 5) (v := (x6 + (1 : Int32))) (ls2 := [(6, .int ((x6 + (1 : Int32)))), (5, .int ((x5 + (1 : Int32)))), (4, .int (v10)), (0, .ref (p0)), (2, .int (x2)), (3, .int (x3))]) dX11_chance_132 rfl rfl (Nat.le_of_ble_eq_true rfl) rfl ?_
    refine aj_goto (tgt := 56) dX11_chance_135 (by decide) ?_
    refine AJ.sub [3, 4, 5, 2, 1, 0] rfl ?_
    exact ih (p0) (x2) (x3) (v10) ((x5 + (1 : Int32))) ((x6 + (1 : Int32))) M8
def gX11_chance (S : List (Nat × Nat)) (p0 : Nat) (x1 : Int32) (x2 : Int32) (x3 : Int32) (M : zM) : Option (Int32 × zM) := (if x1 < 0 then some ((-1 : Int32), M) else (if x2 < (1 : Int32) then some ((-1 : Int32), M) else (if (99 : Int32) < x2 then some ((-1 : Int32), M) else zgR S M (p0) 11 14 3 (fun r1 => zrc S (r1) 10 18 ((gX10_hasWork S (r1) (x3) M).bind (fun v2 => (if v2 = 0 then some ((-1 : Int32), M) else zgR S M (p0) 11 14 9 (fun r3 => zgR S M (p0) 11 14 3 (fun r4 => zrc S (r3) 0 6 ((gX0_goesOf S (r3) (r4) M).bind (fun M5 => zgR S M5 (p0) 11 14 9 (fun r6 => zpI S M5 (r6) 0 6 2 ((1 : Int32)) (fun M7 => gX11_chance_56 S zfu (p0) (x2) (x3) (x1) ((0 : Int32)) ((0 : Int32)) M7)))))))))))))
set_option maxHeartbeats 4000000 in
set_option maxRecDepth 100000 in
theorem c_X11_chance (w : zWd) (S : List (Nat × Nat)) (p0 : Nat) (x1 : Int32) (x2 : Int32) (x3 : Int32) (M : zM) : CT (zfIM S) w 8 mX11_chance [.ref (p0), .int (x1), .int (x2), .int (x3)] (S, M) (gX11_chance S p0 x1 x2 x3 M) := by
  refine CT.of (by decide) (Nat.le_of_ble_eq_true rfl) ?_
  show AJ _ _ _ _ 0 [(0, .ref (p0)), (1, .int (x1)), (2, .int (x2)), (3, .int (x3))] [] _ _
  unfold gX11_chance
  refine aj_iload_n (1) dX11_chance_0 rfl rfl ?_
  refine aj_if_lt (tgt := 26) dX11_chance_1 (by decide) (fun h => ?_) (fun h => ?_)
  · refine aj_iconst (v := (-1 : Int32)) dX11_chance_26 (by decide) ?_
    exact aj_iret dX11_chance_27 rfl rfl rfl
  refine aj_iload_n (2) dX11_chance_4 rfl rfl ?_
  refine aj_iconst (v := (1 : Int32)) dX11_chance_5 (by decide) ?_
  refine aj_icmp_lt (tgt := 26) dX11_chance_6 (by decide) (fun h => ?_) (fun h => ?_)
  · refine aj_iconst (v := (-1 : Int32)) dX11_chance_26 (by decide) ?_
    exact aj_iret dX11_chance_27 rfl rfl rfl
  refine aj_iload_n (2) dX11_chance_9 rfl rfl ?_
  refine aj_bipush (v := (99 : Int32)) dX11_chance_10 (by decide) ?_
  refine aj_icmp_gt (tgt := 26) dX11_chance_12 (by decide) (fun h => ?_) (fun h => ?_)
  · refine aj_iconst (v := (-1 : Int32)) dX11_chance_26 (by decide) ?_
    exact aj_iret dX11_chance_27 rfl rfl rfl
  refine aj_aload_n (0) dX11_chance_15 rfl rfl ?_
  refine aj_getR (TX := TX11) zc11 (by decide) rfl (Or.inl zg_563) dX11_chance_16 (fun r1 => ?_)
  refine aj_iload_n (3) dX11_chance_19 rfl rfl ?_
  refine rV_I (as := [.int (x3)]) (c_X10_hasWork w S _ _ _) mv_X10_hasWork rfl zg_838 (by decide) (Nat.le_of_ble_eq_true rfl) dX11_chance_20 (fun v2 => ?_)
  refine aj_if_ne (tgt := 28) dX11_chance_23 (by decide) (fun h => ?_) (fun h => ?_)
  · refine aj_aload_n (0) dX11_chance_28 rfl rfl ?_
    refine aj_getR (TX := TX11) zc11 (by decide) rfl (Or.inl zg_569) dX11_chance_29 (fun r3 => ?_)
    refine aj_aload_n (0) dX11_chance_32 rfl rfl ?_
    refine aj_getR (TX := TX11) zc11 (by decide) rfl (Or.inl zg_563) dX11_chance_33 (fun r4 => ?_)
    refine rV_VM (as := [.ref (r4)]) (c_X0_goesOf w S _ _ _) mv_X0_goesOf rfl zg_851 (by decide) (Nat.le_of_ble_eq_true rfl) dX11_chance_36 (fun M5 => ?_)
    refine aj_aload_n (0) dX11_chance_39 rfl rfl ?_
    refine aj_getR (TX := TX11) zc11 (by decide) rfl (Or.inl zg_569) dX11_chance_40 (fun r6 => ?_)
    refine aj_iconst (v := (1 : Int32)) dX11_chance_43 (by decide) ?_
    refine r_putI (TX := TX0) zc0 (by decide) rfl rfl (by decide +kernel) rfl (Or.inr ⟨_, zn_421⟩) dX11_chance_44 (fun M7 => ?_)
    refine aj_iload_n (1) dX11_chance_47 rfl rfl ?_
    refine aj_istore (ls2 := [(4, .int (x1)), (0, .ref (p0)), (1, .int (x1)), (2, .int (x2)), (3, .int (x3))]) dX11_chance_48 (Nat.le_of_ble_eq_true rfl) rfl ?_
    refine aj_iconst (v := (0 : Int32)) dX11_chance_50 (by decide) ?_
    refine aj_istore (ls2 := [(5, .int ((0 : Int32))), (4, .int (x1)), (0, .ref (p0)), (1, .int (x1)), (2, .int (x2)), (3, .int (x3))]) dX11_chance_51 (Nat.le_of_ble_eq_true rfl) rfl ?_
    refine aj_iconst (v := (0 : Int32)) dX11_chance_53 (by decide) ?_
    refine aj_istore (ls2 := [(6, .int ((0 : Int32))), (5, .int ((0 : Int32))), (4, .int (x1)), (0, .ref (p0)), (1, .int (x1)), (2, .int (x2)), (3, .int (x3))]) dX11_chance_54 (Nat.le_of_ble_eq_true rfl) rfl ?_
    refine AJ.sub [3, 5, 6, 2, 1, 0] rfl ?_
    exact t_X11_chance_56 w S zfu (p0) (x2) (x3) (x1) ((0 : Int32)) ((0 : Int32)) M7
  refine aj_iconst (v := (-1 : Int32)) dX11_chance_26 (by decide) ?_
  exact aj_iret dX11_chance_27 rfl rfl rfl
def gX11_tried_34 (S : List (Nat × Nat)) (p0 : Nat) (x1 : Int32) (x2 : Int32) (x3 : Int32) (x0s : Int32) (M : zM) : Option (Int32 × zM) := (if x0s = 0 then some ((-1 : Int32), M) else (gX11_isDays S (x3) M).bind (fun v1 => (if v1 = 0 then some ((-1 : Int32), M) else zgR S M (p0) 11 14 9 (fun r2 => zgR S M (p0) 11 14 3 (fun r3 => zrc S (r2) 0 6 ((gX0_goesOf S (r2) (r3) M).bind (fun M4 => zgR S M4 (p0) 11 14 9 (fun r5 => zrc S (r5) 0 6 ((gX0_differs S (r5) (x1) (x2) M4).bind (fun M6 => zgR S M6 (p0) 11 14 6 (fun r7 => zgR S M6 (p0) 11 14 5 (fun r8 => zrc S (r7) 7 15 ((gX7_copy S (r7) (r8) M6).bind (fun M9 => zgR S M9 (p0) 11 14 9 (fun r10 => zgR S M9 (p0) 11 14 6 (fun r11 => zrc S (r10) 0 6 ((gX0_daysGo S (r10) (r11) (x3) M9).bind (fun M12 => zgR S M12 (p0) 11 14 3 (fun r13 => zgI S M12 (r13) 10 18 10 (fun v14 => zgR S M12 (p0) 11 14 6 (fun r15 => zgI S M12 (r15) 7 15 5 (fun v16 => some ((v14 - v16), M12)))))))))))))))))))))))
set_option maxHeartbeats 4000000 in
set_option maxRecDepth 100000 in
theorem t_X11_tried_34 (w : zWd) (S : List (Nat × Nat)) (p0 : Nat) (x1 : Int32) (x2 : Int32) (x3 : Int32) (x0s : Int32) (M : zM) : AJ (zfIM S) w 8 mX11_tried 34 [(0, .ref (p0)), (1, .int (x1)), (2, .int (x2)), (3, .int (x3))] [.int (x0s)] (S, M) (gX11_tried_34 S p0 x1 x2 x3 x0s M) := by
  unfold gX11_tried_34
  refine aj_istore (ls2 := [(4, .int (x0s)), (0, .ref (p0)), (1, .int (x1)), (2, .int (x2)), (3, .int (x3))]) dX11_tried_34 (Nat.le_of_ble_eq_true rfl) rfl ?_
  refine aj_iload (0) dX11_tried_36 rfl ?_
  refine aj_if_eq (tgt := 48) dX11_tried_38 (by decide) (fun h => ?_) (fun h => ?_)
  · refine aj_iconst (v := (-1 : Int32)) dX11_tried_48 (by decide) ?_
    exact aj_iret dX11_tried_49 rfl rfl rfl
  refine aj_iload_n (4) dX11_tried_41 rfl rfl ?_
  refine rS_I (as := [.int (x3)]) (c_X11_isDays w S _ _) ms_X11_isDays rfl zg_924 (by decide) (Nat.le_of_ble_eq_true rfl) dX11_tried_42 (fun v1 => ?_)
  refine aj_if_ne (tgt := 50) dX11_tried_45 (by decide) (fun h => ?_) (fun h => ?_)
  · refine aj_aload_n (1) dX11_tried_50 rfl rfl ?_
    refine aj_getR (TX := TX11) zc11 (by decide) rfl (Or.inl zg_569) dX11_tried_51 (fun r2 => ?_)
    refine aj_aload_n (1) dX11_tried_54 rfl rfl ?_
    refine aj_getR (TX := TX11) zc11 (by decide) rfl (Or.inl zg_563) dX11_tried_55 (fun r3 => ?_)
    refine rV_VM (as := [.ref (r3)]) (c_X0_goesOf w S _ _ _) mv_X0_goesOf rfl zg_851 (by decide) (Nat.le_of_ble_eq_true rfl) dX11_tried_58 (fun M4 => ?_)
    refine aj_aload_n (1) dX11_tried_61 rfl rfl ?_
    refine aj_getR (TX := TX11) zc11 (by decide) rfl (Or.inl zg_569) dX11_tried_62 (fun r5 => ?_)
    refine aj_iload_n (2) dX11_tried_65 rfl rfl ?_
    refine aj_iload_n (3) dX11_tried_66 rfl rfl ?_
    refine rV_VM (as := [.int (x1), .int (x2)]) (c_X0_differs w S _ _ _ _) mv_X0_differs rfl zg_1220 (by decide) (Nat.le_of_ble_eq_true rfl) dX11_tried_67 (fun M6 => ?_)
    refine aj_aload_n (1) dX11_tried_70 rfl rfl ?_
    refine aj_getR (TX := TX11) zc11 (by decide) rfl (Or.inl zg_566) dX11_tried_71 (fun r7 => ?_)
    refine aj_aload_n (1) dX11_tried_74 rfl rfl ?_
    refine aj_getR (TX := TX11) zc11 (by decide) rfl (Or.inl zg_565) dX11_tried_75 (fun r8 => ?_)
    refine rV_VM (as := [.ref (r8)]) (c_X7_copy w S _ _ _) mv_X7_copy rfl zg_976 (by decide) (Nat.le_of_ble_eq_true rfl) dX11_tried_78 (fun M9 => ?_)
    refine aj_aload_n (1) dX11_tried_81 rfl rfl ?_
    refine aj_getR (TX := TX11) zc11 (by decide) rfl (Or.inl zg_569) dX11_tried_82 (fun r10 => ?_)
    refine aj_aload_n (1) dX11_tried_85 rfl rfl ?_
    refine aj_getR (TX := TX11) zc11 (by decide) rfl (Or.inl zg_566) dX11_tried_86 (fun r11 => ?_)
    refine aj_iload_n (4) dX11_tried_89 rfl rfl ?_
    refine rV_VM (as := [.ref (r11), .int (x3)]) (c_X0_daysGo w S _ _ _ _) mv_X0_daysGo rfl zg_927 (by decide) (Nat.le_of_ble_eq_true rfl) dX11_tried_90 (fun M12 => ?_)
    refine aj_aload_n (1) dX11_tried_93 rfl rfl ?_
    refine aj_getR (TX := TX11) zc11 (by decide) rfl (Or.inl zg_563) dX11_tried_94 (fun r13 => ?_)
    refine r_getI (TX := TX10) zc10 (by decide) rfl (Or.inr ⟨_, zn_216⟩) dX11_tried_97 (fun v14 => ?_)
    refine aj_aload_n (1) dX11_tried_100 rfl rfl ?_
    refine aj_getR (TX := TX11) zc11 (by decide) rfl (Or.inl zg_566) dX11_tried_101 (fun r15 => ?_)
    refine r_getI (TX := TX7) zc7 (by decide) rfl (Or.inr ⟨_, zn_346⟩) dX11_tried_104 (fun v16 => ?_)
    refine aj_isub dX11_tried_107 ?_
    exact aj_iret dX11_tried_108 rfl rfl rfl
  refine aj_iconst (v := (-1 : Int32)) dX11_tried_48 (by decide) ?_
  exact aj_iret dX11_tried_49 rfl rfl rfl
def gX11_tried (S : List (Nat × Nat)) (p0 : Nat) (x1 : Int32) (x2 : Int32) (x3 : Int32) (M : zM) : Option (Int32 × zM) := (if x1 = (2 : Int32) then zgR S M (p0) 11 14 3 (fun r1 => zrc S (r1) 10 18 ((gX10_hasTrade S (r1) (x2) M).bind (fun v2 => gX11_tried_34 S (p0) (x1) (x2) (x3) (v2) M))) else (if x1 < 0 then gX11_tried_34 S (p0) (x1) (x2) (x3) ((0 : Int32)) M else (if (4 : Int32) < x1 then gX11_tried_34 S (p0) (x1) (x2) (x3) ((0 : Int32)) M else (if x2 = 0 then gX11_tried_34 S (p0) (x1) (x2) (x3) ((1 : Int32)) M else gX11_tried_34 S (p0) (x1) (x2) (x3) ((0 : Int32)) M))))
set_option maxHeartbeats 4000000 in
set_option maxRecDepth 100000 in
theorem c_X11_tried (w : zWd) (S : List (Nat × Nat)) (p0 : Nat) (x1 : Int32) (x2 : Int32) (x3 : Int32) (M : zM) : CT (zfIM S) w 8 mX11_tried [.ref (p0), .int (x1), .int (x2), .int (x3)] (S, M) (gX11_tried S p0 x1 x2 x3 M) := by
  refine CT.of (by decide) (Nat.le_of_ble_eq_true rfl) ?_
  show AJ _ _ _ _ 0 [(0, .ref (p0)), (1, .int (x1)), (2, .int (x2)), (3, .int (x3))] [] _ _
  unfold gX11_tried
  refine aj_iload_n (1) dX11_tried_0 rfl rfl ?_
  refine aj_iconst (v := (2 : Int32)) dX11_tried_1 (by decide) ?_
  refine aj_icmp_ne (tgt := 16) dX11_tried_2 (by decide) (fun h => ?_) (fun h => ?_)
  · refine aj_iload_n (1) dX11_tried_16 rfl rfl ?_
    refine aj_if_lt (tgt := 33) dX11_tried_17 (by decide) (fun h => ?_) (fun h => ?_)
    · refine aj_iconst (v := (0 : Int32)) dX11_tried_33 (by decide) ?_
      refine AJ.sub [0, 1, 2, 3] rfl ?_
      exact t_X11_tried_34 w S (p0) (x1) (x2) (x3) ((0 : Int32)) M
    refine aj_iload_n (1) dX11_tried_20 rfl rfl ?_
    refine aj_iconst (v := (4 : Int32)) dX11_tried_21 (by decide) ?_
    refine aj_icmp_gt (tgt := 33) dX11_tried_22 (by decide) (fun h => ?_) (fun h => ?_)
    · refine aj_iconst (v := (0 : Int32)) dX11_tried_33 (by decide) ?_
      refine AJ.sub [0, 1, 2, 3] rfl ?_
      exact t_X11_tried_34 w S (p0) (x1) (x2) (x3) ((0 : Int32)) M
    refine aj_iload_n (2) dX11_tried_25 rfl rfl ?_
    refine aj_if_ne (tgt := 33) dX11_tried_26 (by decide) (fun h => ?_) (fun h => ?_)
    · refine aj_iconst (v := (0 : Int32)) dX11_tried_33 (by decide) ?_
      refine AJ.sub [0, 1, 2, 3] rfl ?_
      exact t_X11_tried_34 w S (p0) (x1) (x2) (x3) ((0 : Int32)) M
    refine aj_iconst (v := (1 : Int32)) dX11_tried_29 (by decide) ?_
    refine aj_goto (tgt := 34) dX11_tried_30 (by decide) ?_
    refine AJ.sub [0, 1, 2, 3] rfl ?_
    exact t_X11_tried_34 w S (p0) (x1) (x2) (x3) ((1 : Int32)) M
  refine aj_aload_n (0) dX11_tried_5 rfl rfl ?_
  refine aj_getR (TX := TX11) zc11 (by decide) rfl (Or.inl zg_563) dX11_tried_6 (fun r1 => ?_)
  refine aj_iload_n (2) dX11_tried_9 rfl rfl ?_
  refine rV_I (as := [.int (x2)]) (c_X10_hasTrade w S _ _ _) mv_X10_hasTrade rfl zg_846 (by decide) (Nat.le_of_ble_eq_true rfl) dX11_tried_10 (fun v2 => ?_)
  refine aj_goto (tgt := 34) dX11_tried_13 (by decide) ?_
  refine AJ.sub [0, 1, 2, 3] rfl ?_
  exact t_X11_tried_34 w S (p0) (x1) (x2) (x3) (v2) M
def gX11_undo (S : List (Nat × Nat)) (p0 : Nat) (M : zM) : Option (Int32 × zM) := zgR S M (p0) 11 14 11 (fun r1 => zgR S M (p0) 11 14 5 (fun r2 => zrc S (r1) 8 2 (zb2 (gX8_takeBack S (r1) (r2) M) (fun v3 M4 => some (v3, M4)))))
set_option maxHeartbeats 4000000 in
set_option maxRecDepth 100000 in
theorem c_X11_undo (w : zWd) (S : List (Nat × Nat)) (p0 : Nat) (M : zM) : CT (zfIM S) w 3 mX11_undo [.ref (p0)] (S, M) (gX11_undo S p0 M) := by
  refine CT.of (by decide) (Nat.le_of_ble_eq_true rfl) ?_
  show AJ _ _ _ _ 0 [(0, .ref (p0))] [] _ _
  unfold gX11_undo
  refine aj_aload_n (0) dX11_undo_0 rfl rfl ?_
  refine aj_getR (TX := TX11) zc11 (by decide) rfl (Or.inl zg_571) dX11_undo_1 (fun r1 => ?_)
  refine aj_aload_n (0) dX11_undo_4 rfl rfl ?_
  refine aj_getR (TX := TX11) zc11 (by decide) rfl (Or.inl zg_565) dX11_undo_5 (fun r2 => ?_)
  refine rV_IM (as := [.ref (r2)]) (c_X8_takeBack w S _ _ _) mv_X8_takeBack rfl zg_1229 (by decide) (Nat.le_of_ble_eq_true rfl) dX11_undo_8 (fun v3 M4 => ?_)
  exact aj_iret dX11_undo_11 rfl rfl rfl
def gX11_keep (S : List (Nat × Nat)) (p0 : Nat) (M : zM) : Option (Int32 × zM) := zgR S M (p0) 11 14 7 (fun r1 => zgR S M (p0) 11 14 5 (fun r2 => zrc S (r1) 7 15 ((gX7_copy S (r1) (r2) M).bind (fun M3 => zpI S M3 (p0) 11 14 8 ((1 : Int32)) (fun M4 => zgR S M4 (p0) 11 14 5 (fun r5 => zgI S M4 (r5) 7 15 0 (fun v6 => some (v6, M4))))))))
set_option maxHeartbeats 4000000 in
set_option maxRecDepth 100000 in
theorem c_X11_keep (w : zWd) (S : List (Nat × Nat)) (p0 : Nat) (M : zM) : CT (zfIM S) w 4 mX11_keep [.ref (p0)] (S, M) (gX11_keep S p0 M) := by
  refine CT.of (by decide) (Nat.le_of_ble_eq_true rfl) ?_
  show AJ _ _ _ _ 0 [(0, .ref (p0))] [] _ _
  unfold gX11_keep
  refine aj_aload_n (0) dX11_keep_0 rfl rfl ?_
  refine aj_getR (TX := TX11) zc11 (by decide) rfl (Or.inl zg_567) dX11_keep_1 (fun r1 => ?_)
  refine aj_aload_n (0) dX11_keep_4 rfl rfl ?_
  refine aj_getR (TX := TX11) zc11 (by decide) rfl (Or.inl zg_565) dX11_keep_5 (fun r2 => ?_)
  refine rV_VM (as := [.ref (r2)]) (c_X7_copy w S _ _ _) mv_X7_copy rfl zg_976 (by decide) (Nat.le_of_ble_eq_true rfl) dX11_keep_8 (fun M3 => ?_)
  refine aj_aload_n (0) dX11_keep_11 rfl rfl ?_
  refine aj_iconst (v := (1 : Int32)) dX11_keep_12 (by decide) ?_
  refine r_putI (TX := TX11) zc11 (by decide) rfl rfl (by decide +kernel) rfl (Or.inl zg_568) dX11_keep_13 (fun M4 => ?_)
  refine aj_aload_n (0) dX11_keep_16 rfl rfl ?_
  refine aj_getR (TX := TX11) zc11 (by decide) rfl (Or.inl zg_565) dX11_keep_17 (fun r5 => ?_)
  refine r_getI (TX := TX7) zc7 (by decide) rfl (Or.inr ⟨_, zn_329⟩) dX11_keep_20 (fun v6 => ?_)
  exact aj_iret dX11_keep_23 rfl rfl rfl
def gX11_back (S : List (Nat × Nat)) (p0 : Nat) (M : zM) : Option (Int32 × zM) := zgI S M (p0) 11 14 8 (fun v1 => (if v1 = 0 then some ((-1 : Int32), M) else zgR S M (p0) 11 14 5 (fun r2 => zgR S M (p0) 11 14 7 (fun r3 => zrc S (r2) 7 15 ((gX7_copy S (r2) (r3) M).bind (fun M4 => zgR S M4 (p0) 11 14 11 (fun r5 => zrc S (r5) 8 2 ((gX8_clear S (r5) M4).bind (fun M6 => zgR S M6 (p0) 11 14 5 (fun r7 => zgI S M6 (r7) 7 15 0 (fun v8 => some (v8, M6))))))))))))
set_option maxHeartbeats 4000000 in
set_option maxRecDepth 100000 in
theorem c_X11_back (w : zWd) (S : List (Nat × Nat)) (p0 : Nat) (M : zM) : CT (zfIM S) w 4 mX11_back [.ref (p0)] (S, M) (gX11_back S p0 M) := by
  refine CT.of (by decide) (Nat.le_of_ble_eq_true rfl) ?_
  show AJ _ _ _ _ 0 [(0, .ref (p0))] [] _ _
  unfold gX11_back
  refine aj_aload_n (0) dX11_back_0 rfl rfl ?_
  refine r_getI (TX := TX11) zc11 (by decide) rfl (Or.inl zg_568) dX11_back_1 (fun v1 => ?_)
  refine aj_if_ne (tgt := 9) dX11_back_4 (by decide) (fun h => ?_) (fun h => ?_)
  · refine aj_aload_n (0) dX11_back_9 rfl rfl ?_
    refine aj_getR (TX := TX11) zc11 (by decide) rfl (Or.inl zg_565) dX11_back_10 (fun r2 => ?_)
    refine aj_aload_n (0) dX11_back_13 rfl rfl ?_
    refine aj_getR (TX := TX11) zc11 (by decide) rfl (Or.inl zg_567) dX11_back_14 (fun r3 => ?_)
    refine rV_VM (as := [.ref (r3)]) (c_X7_copy w S _ _ _) mv_X7_copy rfl zg_976 (by decide) (Nat.le_of_ble_eq_true rfl) dX11_back_17 (fun M4 => ?_)
    refine aj_aload_n (0) dX11_back_20 rfl rfl ?_
    refine aj_getR (TX := TX11) zc11 (by decide) rfl (Or.inl zg_571) dX11_back_21 (fun r5 => ?_)
    refine rV_VM (as := []) (c_X8_clear w S _ _) mv_X8_clear rfl zg_811 (by decide) (Nat.le_of_ble_eq_true rfl) dX11_back_24 (fun M6 => ?_)
    refine aj_aload_n (0) dX11_back_27 rfl rfl ?_
    refine aj_getR (TX := TX11) zc11 (by decide) rfl (Or.inl zg_565) dX11_back_28 (fun r7 => ?_)
    refine r_getI (TX := TX7) zc7 (by decide) rfl (Or.inr ⟨_, zn_329⟩) dX11_back_31 (fun v8 => ?_)
    exact aj_iret dX11_back_34 rfl rfl rfl
  refine aj_iconst (v := (-1 : Int32)) dX11_back_7 (by decide) ?_
  exact aj_iret dX11_back_8 rfl rfl rfl
def gX11_count (S : List (Nat × Nat)) (p0 : Nat) (x1 : Int32) (M : zM) : Option Int32 := (if x1 = (0 : Int32) then zgR S M (p0) 11 14 3 (fun r2 => zgI S M (r2) 10 18 1 (fun v3 => some (v3))) else (if x1 = (1 : Int32) then zgR S M (p0) 11 14 5 (fun r5 => zgI S M (r5) 7 15 10 (fun v6 => some (v6))) else (if x1 = (2 : Int32) then zgR S M (p0) 11 14 3 (fun r8 => zgI S M (r8) 10 18 7 (fun v9 => some (v9))) else (if x1 = (3 : Int32) then zgR S M (p0) 11 14 3 (fun r11 => zgI S M (r11) 10 18 10 (fun v12 => some (v12))) else (if x1 = (4 : Int32) then zgR S M (p0) 11 14 3 (fun r14 => zgR S M (r14) 10 18 17 (fun r15 => zgI S M (r15) 1 7 6 (fun v16 => some (v16)))) else (if x1 = (5 : Int32) then zgR S M (p0) 11 14 5 (fun r18 => zgI S M (r18) 7 15 0 (fun v19 => some (v19))) else (if x1 = (6 : Int32) then zgR S M (p0) 11 14 5 (fun r21 => zgI S M (r21) 7 15 1 (fun v22 => some (v22))) else (if x1 = (7 : Int32) then zgR S M (p0) 11 14 3 (fun r24 => zgI S M (r24) 10 18 10 (fun v25 => zgR S M (p0) 11 14 5 (fun r26 => zgI S M (r26) 7 15 5 (fun v27 => some ((v25 - v27)))))) else (if x1 = (8 : Int32) then zgR S M (p0) 11 14 5 (fun r29 => zgI S M (r29) 7 15 6 (fun v30 => some (v30))) else (if x1 = (9 : Int32) then zgR S M (p0) 11 14 5 (fun r32 => zgI S M (r32) 7 15 7 (fun v33 => some (v33))) else (if x1 = (10 : Int32) then zgR S M (p0) 11 14 5 (fun r35 => zgR S M (r35) 7 15 12 (fun r36 => zrc S (r36) 5 1 ((gX5_sum S (r36) M).bind (fun v37 => some (v37))))) else (if x1 = (11 : Int32) then zgR S M (p0) 11 14 10 (fun r39 => zgI S M (r39) 2 10 6 (fun v40 => some (v40))) else (if x1 = (12 : Int32) then zgR S M (p0) 11 14 10 (fun r42 => zrc S (r42) 2 10 ((gX2_byHowMany S (r42) M).bind (fun v43 => some (v43)))) else (if x1 = (13 : Int32) then zgR S M (p0) 11 14 11 (fun r45 => zgI S M (r45) 8 2 1 (fun v46 => some (v46))) else some ((-1 : Int32))))))))))))))))
set_option maxHeartbeats 4000000 in
set_option maxRecDepth 100000 in
theorem c_X11_count (w : zWd) (S : List (Nat × Nat)) (p0 : Nat) (x1 : Int32) (M : zM) : CT (zfI S M) w 2 mX11_count [.ref (p0), .int (x1)] (S, M) (gX11_count S p0 x1 M) := by
  refine CT.of (by decide) (Nat.le_of_ble_eq_true rfl) ?_
  show AJ _ _ _ _ 0 [(0, .ref (p0)), (1, .int (x1))] [] _ _
  unfold gX11_count
  refine aj_iload_n (1) dX11_count_0 rfl rfl ?_
  refine aj_ite (fun h => ?_) (fun h1 => ?_)
  · have h9 : x1 = (0 : Int32) := h
    refine aj_tsw (tgt := 72) (off := 71) dX11_count_1 (by rw [h9]; decide) (by rw [h9]; decide) (by rw [h9]; decide +kernel) (by decide) ?_
    refine aj_aload_n (0) dX11_count_72 rfl rfl ?_
    refine aj_getR (TX := TX11) zc11 (by decide) rfl (Or.inl zg_563) dX11_count_73 (fun r2 => ?_)
    refine r_getI (TX := TX10) zc10 (by decide) rfl (Or.inr ⟨_, zn_187⟩) dX11_count_76 (fun v3 => ?_)
    exact aj_iret dX11_count_79 rfl rfl rfl
  refine aj_ite (fun h => ?_) (fun h4 => ?_)
  · have h9 : x1 = (1 : Int32) := h
    refine aj_tsw (tgt := 80) (off := 79) dX11_count_1 (by rw [h9]; decide) (by rw [h9]; decide) (by rw [h9]; decide +kernel) (by decide) ?_
    refine aj_aload_n (0) dX11_count_80 rfl rfl ?_
    refine aj_getR (TX := TX11) zc11 (by decide) rfl (Or.inl zg_565) dX11_count_81 (fun r5 => ?_)
    refine r_getI (TX := TX7) zc7 (by decide) rfl (Or.inr ⟨_, zn_361⟩) dX11_count_84 (fun v6 => ?_)
    exact aj_iret dX11_count_87 rfl rfl rfl
  refine aj_ite (fun h => ?_) (fun h7 => ?_)
  · have h9 : x1 = (2 : Int32) := h
    refine aj_tsw (tgt := 88) (off := 87) dX11_count_1 (by rw [h9]; decide) (by rw [h9]; decide) (by rw [h9]; decide +kernel) (by decide) ?_
    refine aj_aload_n (0) dX11_count_88 rfl rfl ?_
    refine aj_getR (TX := TX11) zc11 (by decide) rfl (Or.inl zg_563) dX11_count_89 (fun r8 => ?_)
    refine r_getI (TX := TX10) zc10 (by decide) rfl (Or.inr ⟨_, zn_207⟩) dX11_count_92 (fun v9 => ?_)
    exact aj_iret dX11_count_95 rfl rfl rfl
  refine aj_ite (fun h => ?_) (fun h10 => ?_)
  · have h9 : x1 = (3 : Int32) := h
    refine aj_tsw (tgt := 96) (off := 95) dX11_count_1 (by rw [h9]; decide) (by rw [h9]; decide) (by rw [h9]; decide +kernel) (by decide) ?_
    refine aj_aload_n (0) dX11_count_96 rfl rfl ?_
    refine aj_getR (TX := TX11) zc11 (by decide) rfl (Or.inl zg_563) dX11_count_97 (fun r11 => ?_)
    refine r_getI (TX := TX10) zc10 (by decide) rfl (Or.inr ⟨_, zn_216⟩) dX11_count_100 (fun v12 => ?_)
    exact aj_iret dX11_count_103 rfl rfl rfl
  refine aj_ite (fun h => ?_) (fun h13 => ?_)
  · have h9 : x1 = (4 : Int32) := h
    refine aj_tsw (tgt := 104) (off := 103) dX11_count_1 (by rw [h9]; decide) (by rw [h9]; decide) (by rw [h9]; decide +kernel) (by decide) ?_
    refine aj_aload_n (0) dX11_count_104 rfl rfl ?_
    refine aj_getR (TX := TX11) zc11 (by decide) rfl (Or.inl zg_563) dX11_count_105 (fun r14 => ?_)
    refine aj_getR (TX := TX10) zc10 (by decide) rfl (Or.inr ⟨_, zn_244⟩) dX11_count_108 (fun r15 => ?_)
    refine r_getI (TX := TX1) zc1 (by decide) rfl (Or.inr ⟨_, zn_163⟩) dX11_count_111 (fun v16 => ?_)
    exact aj_iret dX11_count_114 rfl rfl rfl
  refine aj_ite (fun h => ?_) (fun h17 => ?_)
  · have h9 : x1 = (5 : Int32) := h
    refine aj_tsw (tgt := 115) (off := 114) dX11_count_1 (by rw [h9]; decide) (by rw [h9]; decide) (by rw [h9]; decide +kernel) (by decide) ?_
    refine aj_aload_n (0) dX11_count_115 rfl rfl ?_
    refine aj_getR (TX := TX11) zc11 (by decide) rfl (Or.inl zg_565) dX11_count_116 (fun r18 => ?_)
    refine r_getI (TX := TX7) zc7 (by decide) rfl (Or.inr ⟨_, zn_329⟩) dX11_count_119 (fun v19 => ?_)
    exact aj_iret dX11_count_122 rfl rfl rfl
  refine aj_ite (fun h => ?_) (fun h20 => ?_)
  · have h9 : x1 = (6 : Int32) := h
    refine aj_tsw (tgt := 123) (off := 122) dX11_count_1 (by rw [h9]; decide) (by rw [h9]; decide) (by rw [h9]; decide +kernel) (by decide) ?_
    refine aj_aload_n (0) dX11_count_123 rfl rfl ?_
    refine aj_getR (TX := TX11) zc11 (by decide) rfl (Or.inl zg_565) dX11_count_124 (fun r21 => ?_)
    refine r_getI (TX := TX7) zc7 (by decide) rfl (Or.inr ⟨_, zn_332⟩) dX11_count_127 (fun v22 => ?_)
    exact aj_iret dX11_count_130 rfl rfl rfl
  refine aj_ite (fun h => ?_) (fun h23 => ?_)
  · have h9 : x1 = (7 : Int32) := h
    refine aj_tsw (tgt := 131) (off := 130) dX11_count_1 (by rw [h9]; decide) (by rw [h9]; decide) (by rw [h9]; decide +kernel) (by decide) ?_
    refine aj_aload_n (0) dX11_count_131 rfl rfl ?_
    refine aj_getR (TX := TX11) zc11 (by decide) rfl (Or.inl zg_563) dX11_count_132 (fun r24 => ?_)
    refine r_getI (TX := TX10) zc10 (by decide) rfl (Or.inr ⟨_, zn_216⟩) dX11_count_135 (fun v25 => ?_)
    refine aj_aload_n (0) dX11_count_138 rfl rfl ?_
    refine aj_getR (TX := TX11) zc11 (by decide) rfl (Or.inl zg_565) dX11_count_139 (fun r26 => ?_)
    refine r_getI (TX := TX7) zc7 (by decide) rfl (Or.inr ⟨_, zn_346⟩) dX11_count_142 (fun v27 => ?_)
    refine aj_isub dX11_count_145 ?_
    exact aj_iret dX11_count_146 rfl rfl rfl
  refine aj_ite (fun h => ?_) (fun h28 => ?_)
  · have h9 : x1 = (8 : Int32) := h
    refine aj_tsw (tgt := 147) (off := 146) dX11_count_1 (by rw [h9]; decide) (by rw [h9]; decide) (by rw [h9]; decide +kernel) (by decide) ?_
    refine aj_aload_n (0) dX11_count_147 rfl rfl ?_
    refine aj_getR (TX := TX11) zc11 (by decide) rfl (Or.inl zg_565) dX11_count_148 (fun r29 => ?_)
    refine r_getI (TX := TX7) zc7 (by decide) rfl (Or.inr ⟨_, zn_349⟩) dX11_count_151 (fun v30 => ?_)
    exact aj_iret dX11_count_154 rfl rfl rfl
  refine aj_ite (fun h => ?_) (fun h31 => ?_)
  · have h9 : x1 = (9 : Int32) := h
    refine aj_tsw (tgt := 155) (off := 154) dX11_count_1 (by rw [h9]; decide) (by rw [h9]; decide) (by rw [h9]; decide +kernel) (by decide) ?_
    refine aj_aload_n (0) dX11_count_155 rfl rfl ?_
    refine aj_getR (TX := TX11) zc11 (by decide) rfl (Or.inl zg_565) dX11_count_156 (fun r32 => ?_)
    refine r_getI (TX := TX7) zc7 (by decide) rfl (Or.inr ⟨_, zn_352⟩) dX11_count_159 (fun v33 => ?_)
    exact aj_iret dX11_count_162 rfl rfl rfl
  refine aj_ite (fun h => ?_) (fun h34 => ?_)
  · have h9 : x1 = (10 : Int32) := h
    refine aj_tsw (tgt := 163) (off := 162) dX11_count_1 (by rw [h9]; decide) (by rw [h9]; decide) (by rw [h9]; decide +kernel) (by decide) ?_
    refine aj_aload_n (0) dX11_count_163 rfl rfl ?_
    refine aj_getR (TX := TX11) zc11 (by decide) rfl (Or.inl zg_565) dX11_count_164 (fun r35 => ?_)
    refine aj_getR (TX := TX7) zc7 (by decide) rfl (Or.inr ⟨_, zn_368⟩) dX11_count_167 (fun r36 => ?_)
    refine rV_I (as := []) (c_X5_sum w S _ _) mv_X5_sum rfl zg_1245 (by decide) (Nat.le_of_ble_eq_true rfl) dX11_count_170 (fun v37 => ?_)
    exact aj_iret dX11_count_173 rfl rfl rfl
  refine aj_ite (fun h => ?_) (fun h38 => ?_)
  · have h9 : x1 = (11 : Int32) := h
    refine aj_tsw (tgt := 174) (off := 173) dX11_count_1 (by rw [h9]; decide) (by rw [h9]; decide) (by rw [h9]; decide +kernel) (by decide) ?_
    refine aj_aload_n (0) dX11_count_174 rfl rfl ?_
    refine aj_getR (TX := TX11) zc11 (by decide) rfl (Or.inl zg_570) dX11_count_175 (fun r39 => ?_)
    refine r_getI (TX := TX2) zc2 (by decide) rfl (Or.inr ⟨_, zn_453⟩) dX11_count_178 (fun v40 => ?_)
    exact aj_iret dX11_count_181 rfl rfl rfl
  refine aj_ite (fun h => ?_) (fun h41 => ?_)
  · have h9 : x1 = (12 : Int32) := h
    refine aj_tsw (tgt := 182) (off := 181) dX11_count_1 (by rw [h9]; decide) (by rw [h9]; decide) (by rw [h9]; decide +kernel) (by decide) ?_
    refine aj_aload_n (0) dX11_count_182 rfl rfl ?_
    refine aj_getR (TX := TX11) zc11 (by decide) rfl (Or.inl zg_570) dX11_count_183 (fun r42 => ?_)
    refine rV_I (as := []) (c_X2_byHowMany w S _ _) mv_X2_byHowMany rfl zg_1249 (by decide) (Nat.le_of_ble_eq_true rfl) dX11_count_186 (fun v43 => ?_)
    exact aj_iret dX11_count_189 rfl rfl rfl
  refine aj_ite (fun h => ?_) (fun h44 => ?_)
  · have h9 : x1 = (13 : Int32) := h
    refine aj_tsw (tgt := 190) (off := 189) dX11_count_1 (by rw [h9]; decide) (by rw [h9]; decide) (by rw [h9]; decide +kernel) (by decide) ?_
    refine aj_aload_n (0) dX11_count_190 rfl rfl ?_
    refine aj_getR (TX := TX11) zc11 (by decide) rfl (Or.inl zg_571) dX11_count_191 (fun r45 => ?_)
    refine r_getI (TX := TX8) zc8 (by decide) rfl (Or.inr ⟨_, zn_491⟩) dX11_count_194 (fun v46 => ?_)
    exact aj_iret dX11_count_197 rfl rfl rfl
  refine aj_tswO (tgt := 198) dX11_count_1 (by have a0 := lv_neT (k := (0 : Int32)) h1 (a := 0) (by decide); have a1 := lv_neT (k := (1 : Int32)) h4 (a := 1) (by decide); have a2 := lv_neT (k := (2 : Int32)) h7 (a := 2) (by decide); have a3 := lv_neT (k := (3 : Int32)) h10 (a := 3) (by decide); have a4 := lv_neT (k := (4 : Int32)) h13 (a := 4) (by decide); have a5 := lv_neT (k := (5 : Int32)) h17 (a := 5) (by decide); have a6 := lv_neT (k := (6 : Int32)) h20 (a := 6) (by decide); have a7 := lv_neT (k := (7 : Int32)) h23 (a := 7) (by decide); have a8 := lv_neT (k := (8 : Int32)) h28 (a := 8) (by decide); have a9 := lv_neT (k := (9 : Int32)) h31 (a := 9) (by decide); have a10 := lv_neT (k := (10 : Int32)) h34 (a := 10) (by decide); have a11 := lv_neT (k := (11 : Int32)) h38 (a := 11) (by decide); have a12 := lv_neT (k := (12 : Int32)) h41 (a := 12) (by decide); have a13 := lv_neT (k := (13 : Int32)) h44 (a := 13) (by decide); omega) (by decide) ?_
  refine aj_iconst (v := (-1 : Int32)) dX11_count_198 (by decide) ?_
  exact aj_iret dX11_count_199 rfl rfl rfl
