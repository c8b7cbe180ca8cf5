/-! DayOpeners.trade where it returns -/
def gX11_trade (S : List (Nat × Nat)) (p0 : Nat) (x1 : Int32) (x2 : Int32) (M : zM) : Option (Int32 × zM) := zgR S M (p0) 11 14 3 (fun r1 => zrc S (r1) 10 18 ((gX10_hasTrade S (r1) (x1) M).bind (fun v2 => (if v2 = 0 then none else (if x2 = (0 : Int32) then zgR S M (p0) 11 14 3 (fun r4 => zgR S M (r4) 10 18 3 (fun r5 => zrc S (r5) 5 1 ((gX5_get S (r5) (x1) M).bind (fun v6 => some (v6, M))))) else (if x2 = (1 : Int32) then zgR S M (p0) 11 14 3 (fun r8 => zgR S M (r8) 10 18 4 (fun r9 => zrc S (r9) 5 1 ((gX5_get S (r9) (x1) M).bind (fun v10 => some (v10, M))))) else (if x2 = (2 : Int32) then zgR S M (p0) 11 14 5 (fun r12 => zgR S M (r12) 7 15 12 (fun r13 => zrc S (r13) 5 1 ((gX5_get S (r13) (x1) M).bind (fun v14 => some (v14, M))))) else (if x2 = (3 : Int32) then zgR S M (p0) 11 14 5 (fun r16 => zgR S M (r16) 7 15 13 (fun r17 => zrc S (r17) 5 1 ((gX5_get S (r17) (x1) M).bind (fun v18 => some (v18, M))))) else (if x2 = (4 : Int32) then zgR S M (p0) 11 14 5 (fun r20 => zrc S (r20) 7 15 ((gX7_placesOf S (r20) (x1) M).bind (fun v21 => some (v21, M)))) else none)))))))))
set_option maxHeartbeats 4000000 in
set_option maxRecDepth 100000 in
theorem a_X11_trade (w : zWd) (S : List (Nat × Nat)) (p0 : Nat) (x1 : Int32) (x2 : Int32) (M : zM) : AJ (zfIM S) w 3 mX11_trade 0 [(0, .ref (p0)), (1, .int (x1)), (2, .int (x2))] [] (S, M) (gX11_trade S p0 x1 x2 M) := by
  unfold gX11_trade
  refine aj_aload_n (0) dX11_trade_0 rfl rfl ?_
  refine aj_getR (TX := TX11) zc11 (by decide) rfl (Or.inl zg_563) dX11_trade_1 (fun r1 => ?_)
  refine aj_iload_n (1) dX11_trade_4 rfl rfl ?_
  refine rV_I (as := [.int (x1)]) (c_X10_hasTrade w S _ _ _) mv_X10_hasTrade rfl zg_846 (by decide) (Nat.le_of_ble_eq_true rfl) dX11_trade_5 (fun v2 => ?_)
  refine aj_if_ne (tgt := 19) dX11_trade_8 (by decide) (fun h => ?_) (fun h => ?_)
  · refine aj_iload_n (2) dX11_trade_19 rfl rfl ?_
    refine aj_ite (fun h => ?_) (fun h3 => ?_)
    · have h9 : x2 = (0 : Int32) := h
      refine aj_tsw (tgt := 56) (off := 36) dX11_trade_20 (by rw [h9]; decide) (by rw [h9]; decide) (by rw [h9]; decide +kernel) (by decide) ?_
      refine aj_aload_n (0) dX11_trade_56 rfl rfl ?_
      refine aj_getR (TX := TX11) zc11 (by decide) rfl (Or.inl zg_563) dX11_trade_57 (fun r4 => ?_)
      refine aj_getR (TX := TX10) zc10 (by decide) rfl (Or.inr ⟨_, zn_192⟩) dX11_trade_60 (fun r5 => ?_)
      refine aj_iload_n (1) dX11_trade_63 rfl rfl ?_
      refine rV_I (as := [.int (x1)]) (c_X5_get w S _ _ _) mv_X5_get rfl zg_833 (by decide) (Nat.le_of_ble_eq_true rfl) dX11_trade_64 (fun v6 => ?_)
      exact aj_iret dX11_trade_67 rfl rfl rfl
    refine aj_ite (fun h => ?_) (fun h7 => ?_)
    · have h9 : x2 = (1 : Int32) := h
      refine aj_tsw (tgt := 68) (off := 48) dX11_trade_20 (by rw [h9]; decide) (by rw [h9]; decide) (by rw [h9]; decide +kernel) (by decide) ?_
      refine aj_aload_n (0) dX11_trade_68 rfl rfl ?_
      refine aj_getR (TX := TX11) zc11 (by decide) rfl (Or.inl zg_563) dX11_trade_69 (fun r8 => ?_)
      refine aj_getR (TX := TX10) zc10 (by decide) rfl (Or.inr ⟨_, zn_196⟩) dX11_trade_72 (fun r9 => ?_)
      refine aj_iload_n (1) dX11_trade_75 rfl rfl ?_
      refine rV_I (as := [.int (x1)]) (c_X5_get w S _ _ _) mv_X5_get rfl zg_833 (by decide) (Nat.le_of_ble_eq_true rfl) dX11_trade_76 (fun v10 => ?_)
      exact aj_iret dX11_trade_79 rfl rfl rfl
    refine aj_ite (fun h => ?_) (fun h11 => ?_)
    · have h9 : x2 = (2 : Int32) := h
      refine aj_tsw (tgt := 80) (off := 60) dX11_trade_20 (by rw [h9]; decide) (by rw [h9]; decide) (by rw [h9]; decide +kernel) (by decide) ?_
      refine aj_aload_n (0) dX11_trade_80 rfl rfl ?_
      refine aj_getR (TX := TX11) zc11 (by decide) rfl (Or.inl zg_565) dX11_trade_81 (fun r12 => ?_)
      refine aj_getR (TX := TX7) zc7 (by decide) rfl (Or.inr ⟨_, zn_368⟩) dX11_trade_84 (fun r13 => ?_)
      refine aj_iload_n (1) dX11_trade_87 rfl rfl ?_
      refine rV_I (as := [.int (x1)]) (c_X5_get w S _ _ _) mv_X5_get rfl zg_833 (by decide) (Nat.le_of_ble_eq_true rfl) dX11_trade_88 (fun v14 => ?_)
      exact aj_iret dX11_trade_91 rfl rfl rfl
    refine aj_ite (fun h => ?_) (fun h15 => ?_)
    · have h9 : x2 = (3 : Int32) := h
      refine aj_tsw (tgt := 92) (off := 72) dX11_trade_20 (by rw [h9]; decide) (by rw [h9]; decide) (by rw [h9]; decide +kernel) (by decide) ?_
      refine aj_aload_n (0) dX11_trade_92 rfl rfl ?_
      refine aj_getR (TX := TX11) zc11 (by decide) rfl (Or.inl zg_565) dX11_trade_93 (fun r16 => ?_)
      refine aj_getR (TX := TX7) zc7 (by decide) rfl (Or.inr ⟨_, zn_371⟩) dX11_trade_96 (fun r17 => ?_)
      refine aj_iload_n (1) dX11_trade_99 rfl rfl ?_
      refine rV_I (as := [.int (x1)]) (c_X5_get w S _ _ _) mv_X5_get rfl zg_833 (by decide) (Nat.le_of_ble_eq_true rfl) dX11_trade_100 (fun v18 => ?_)
      exact aj_iret dX11_trade_103 rfl rfl rfl
    refine aj_ite (fun h => ?_) (fun h19 => ?_)
    · have h9 : x2 = (4 : Int32) := h
      refine aj_tsw (tgt := 104) (off := 84) dX11_trade_20 (by rw [h9]; decide) (by rw [h9]; decide) (by rw [h9]; decide +kernel) (by decide) ?_
      refine aj_aload_n (0) dX11_trade_104 rfl rfl ?_
      refine aj_getR (TX := TX11) zc11 (by decide) rfl (Or.inl zg_565) dX11_trade_105 (fun r20 => ?_)
      refine aj_iload_n (1) dX11_trade_108 rfl rfl ?_
      refine rV_I (as := [.int (x1)]) (c_X7_placesOf w S _ _ _) mv_X7_placesOf rfl zg_1116 (by decide) (Nat.le_of_ble_eq_true rfl) dX11_trade_109 (fun v21 => ?_)
      exact aj_iret dX11_trade_112 rfl rfl rfl
    refine aj_tswO (tgt := 113) dX11_trade_20 (by have a0 := lv_neT (k := (0 : Int32)) h3 (a := 0) (by decide); have a1 := lv_neT (k := (1 : Int32)) h7 (a := 1) (by decide); have a2 := lv_neT (k := (2 : Int32)) h11 (a := 2) (by decide); have a3 := lv_neT (k := (3 : Int32)) h15 (a := 3) (by decide); have a4 := lv_neT (k := (4 : Int32)) h19 (a := 4) (by decide); omega) (by decide) ?_
    exact AJ.none
  exact AJ.none
