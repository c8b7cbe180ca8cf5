/-! the law's case of trade -/
theorem zl_ws : GoodIn zG (va_wsS RL 39 yL_trade (.codeWith yL_trade cL_trade 5 (some .int) zHH :: zG)) := by
  intro x hx
  have hm : x ∈ zG := by
    rcases List.mem_append.mp hx with h | h
    · rcases List.mem_cons.mp h with rfl | h
      · exact zg_1250
      · rcases List.mem_cons.mp h with rfl | h
        · exact zg_1251
        · rw [List.mem_singleton.mp h]; exact zg_0
    · rcases List.mem_cons.mp h with rfl | h
      · exact zg_1252
      · exact h
  exact ⟨hm, good_of_word (List.mem_filter.mp hm).2⟩
theorem zgoT {l : Launch} {D : va_G} {T : Nat → ClassId} {B : Nat} {Z : State → Prop} {g : Nat} {p : Program} {e : Env} {R : Room} {s : State} {m : MethodId} {args : Array Value} {below : List Frame} {meth : Method} {c : Code} {H : Heap} {locs : List Loc} {cells slots : Nat} {Q : State → Prop} {pc : Nat} {lsr : Array Slot} {rest : List Value} {σ : zH} {v : Int32} {st0 : List Value} {a : Array Value} (hD : zLD (zw l D T B Z g) s R σ H locs cells slots) (hc : cells + 1 ≤ R.cells) (hs : slots + 6 ≤ R.slots)
    (hrun : va_Run p l e R s m args below meth c H locs cells slots 1 6 (F0 m pc lsr st0) rest (zQT (zw l D T B Z g) σ v a) (fun q => B ≤ q))
    (kk : ∀ H' locs' g', zLD (zw l D T B Z g') s R σ H' locs' (cells + 1) (slots + 6) → W p l e R s m args below meth c H' locs' (cells + 1) (slots + 6) Q (F0 m (pc + 3) lsr (.int v :: rest))) : W p l e R s m args below meth c H locs cells slots Q (F0 m pc lsr st0) := by
  intro T9 hT X
  obtain ⟨v1, st₀, t, T', L, h0, X', hL, e1, e2, ⟨hv, hP', hK', hsz', hF⟩, go⟩ := hrun T9 hT X
  obtain ⟨hP, hS, hsz, -⟩ := hD
  cases hv
  have hsz2 : B + σ.1.length + g ≤ T'.heap.size := by rw [e1]; exact hsz'
  have hD' : zLD (zw l D T B Z (T'.heap.size - (B + σ.1.length))) s R σ T'.heap (locs ++ L) (cells + 1) (slots + 6) := by
    refine ⟨by rw [e1]; exact hP', ⟨?_, ?_, ?_⟩, ?_, hc, hs⟩
    · rw [e1]; exact Nat.le_trans hS.1 (by rw [← h0]; exact hF.1)
    · intro q hq hn
      rw [e1, hF.2 q (by rw [h0]; exact Nat.lt_of_lt_of_le hq hS.1) hn, h0]
      exact hS.2.1 q hq hn
    · intro q hq
      rcases List.mem_append.mp hq with h | h
      · exact hS.2.2 q h
      · exact hL q h
    · show T'.heap.size = B + σ.1.length + (T'.heap.size - (B + σ.1.length))
      omega
  obtain ⟨t2, a1, b1⟩ := kk T'.heap (locs ++ L) _ hD' T' rfl X'
  exact ⟨t2, go t2 a1, b1⟩
set_option maxHeartbeats 4000000 in
set_option maxRecDepth 100000 in
theorem zl_tail {Inv : List (Nat × Nat) → zM → Prop} {l : Launch} {D : va_G} {T : Nat → ClassId} {B : Nat} {Z : State → Prop} {p : Program} {e : Env} {s : State} {m : MethodId} {args : Array Value} {below : List Frame} {meth : Method} {c : Code} {Q : State → Prop} {b Ln i g : Nat} {xs : Nat → Int32} {S : List (Nat × Nat)} {M : zM} {H : Heap} {locs : List Loc} {cells slots : Nat} {lsr : Array Slot} (hA : zLA (zw l D T B Z g) RL code 7 p s m args c) (hD : zLD (zw l D T B Z g) s room_1 (S, M) H locs cells slots) (hce : cells ≤ 1000 + i + 6 ∧ slots ≤ 20000 + 6 * (i + 6)) (hX : va_X b Ln xs s s.heap) (hbl : b < s.heap.size) (hbA : ¬ B ≤ b) (hi : i + 6 ≤ Ln) (hLn : Ln ≤ 3072) (hl : lv_has lsr 7 (zll B b i))  {k5 v : Int32} {M2 : zM} (hs2 : S[306]? = some (12, 66)) (hs3 : S[348]? = some (101, 1)) (e2 : gX12_trade S 306 (xs (nI i + 1).toNatClampNeg) (xs (nI i + 2).toNatClampNeg) M = some (v, M2)) (e3 : gX12_thrown S 306 M2 = some k5) (h0 : k5 = 0 → M2.2.1 348 0 = v.toInt64) (hI2 : Inv S M2) (kk : ∀ M' H' locs' cells' slots' lsr', Inv S M' → zlS l D T B Z s S M' H' locs' cells' slots' (i + 6) → lv_has lsr' 7 (zll B b i) → W p l e room_1 s m args below meth c H' locs' cells' slots' Q (F0 m 1522 lsr' [])) : W p l e room_1 s m args below meth c H locs cells slots Q (F0 m 397 lsr [.int k5]) := by
  obtain ⟨hx, hb, -, -, -, hK, -⟩ := id hA
  refine lv_istore (lv' := [(5, .int k5), (4, .int (nI i)), (3, .ref (B + 348)), (2, .ref (B + 306)), (1, .ref (B + 0)), (0, .ref b)]) hx hb dL_law_397 hl (by decide) rfl (fun lsr hl => ?_)
  refine lv_aload_n hx hb dL_law_399 rfl (lv_at hl 3 rfl) ?_
  refine lv_aload_n hx hb dL_law_400 rfl (lv_at hl 5 rfl) ?_
  refine lv_iload hx hb dL_law_401 (lv_at hl 1 rfl) ?_
  refine lv_iconst (v := 1) hx hb dL_law_403 (by decide) ?_
  refine lv_iadd hx hb dL_law_404 ?_
  refine va_sld hx hb hX hbl hbA hD.2.1 (zl_in (k := 1) (by decide) hi hLn (by decide)) dL_law_405 ?_
  refine lv_aload_n hx hb dL_law_406 rfl (lv_at hl 5 rfl) ?_
  refine lv_iload hx hb dL_law_407 (lv_at hl 1 rfl) ?_
  refine lv_iconst (v := 2) hx hb dL_law_409 (by decide) ?_
  refine lv_iadd hx hb dL_law_410 ?_
  refine va_sld hx hb hX hbl hbA hD.2.1 (zl_in (k := 2) (by decide) hi hLn (by decide)) dL_law_411 ?_
  refine zlV (w := zw l D T B Z g) (k := 306) (as := [.int (xs (nI i + 1).toNatClampNeg), .int (xs (nI i + 2).toNatClampNeg)]) (rest := []) hA hD (c_X12_trade (zw l D T B Z g) S 306 _ _ M) e2 rfl mv_X12_trade rfl hs2 zg_1690 (by decide) hl.1 (Nat.zero_le 8) dL_law_412 (fun H locs hD => ?_)
  refine lv_istore (lv' := [(6, .int v), (5, .int k5), (4, .int (nI i)), (3, .ref (B + 348)), (2, .ref (B + 306)), (1, .ref (B + 0)), (0, .ref b)]) hx hb dL_law_415 hl (by decide) rfl (fun lsr hl => ?_)
  refine lv_aload_n hx hb dL_law_417 rfl (lv_at hl 4 rfl) ?_
  refine zlV (w := zw l D T B Z g) (k := 306) (as := []) (rest := []) hA hD (c_X12_thrown (zw l D T B Z g) S 306 M2) e3 rfl mv_X12_thrown rfl hs2 zg_1550 (by decide) hl.1 (Nat.zero_le 8) dL_law_418 (fun H locs hD => ?_)
  refine lv_iload hx hb dL_law_421 (lv_at hl 1 rfl) ?_
  refine lv_icmp_eq (tgt := 428) hx hb dL_law_423 (by decide) (fun _ => ?_) (fun h => absurd rfl h)
  refine lv_iload hx hb dL_law_428 (lv_at hl 1 rfl) ?_
  have fin : ∀ (H : Heap) (locs : List Loc), zLD (zw l D T B Z g) s room_1 (S, M2) H locs cells slots → W p l e room_1 s m args below meth c H locs cells slots Q (F0 m 445 lsr []) := fun H locs hD => by
    refine lv_goto (tgt := 1522) hx hb dL_law_445 (by decide) ?_
    exact kk M2 H locs cells slots lsr hI2 ⟨g, hD, by omega, by omega⟩ (lv_sub hl [2, 3, 4, 5, 6] rfl)
  refine lv_if_ne (tgt := 445) hx hb dL_law_430 (by decide) (fun _ => fin H locs hD) (fun h => ?_)
  refine lv_aload_n hx hb dL_law_433 rfl (lv_at hl 3 rfl) ?_
  refine lv_iconst (v := 0) hx hb dL_law_434 (by decide) ?_
  have he := zW_get (B := B) (T := T) (σ := (S, M2)) hs3
  rw [zE_101] at he
  refine va_lald hx hb hK hD.1 348 1 he rfl (by unfold vp_in; decide) dL_law_435 ?_
  refine lv_iload hx hb dL_law_436 (lv_at hl 0 rfl) ?_
  refine lv_i2l hx hb dL_law_438 rfl ?_
  refine W.lcmp hx hb dL_law_439 ?_
  have e9 : lg_cmp (M2.2.1 348 ((0 : Int32).toNatClampNeg)) v.toInt64 = 0 := by
    rw [show (0 : Int32).toNatClampNeg = 0 by decide, h0 h]
    exact zcmp _
  refine lv_if_eq (tgt := 445) hx hb dL_law_440 (by decide) (fun _ => fin H locs hD) (fun h => absurd e9 h)
set_option maxHeartbeats 4000000 in
set_option maxRecDepth 100000 in
theorem zl_trade {Inv : List (Nat × Nat) → zM → Prop} {l : Launch} {D : va_G} {T : Nat → ClassId} {B : Nat} {Z : State → Prop} {p : Program} {e : Env} {s : State} {m : MethodId} {args : Array Value} {below : List Frame} {meth : Method} {c : Code} {Q : State → Prop} {b Ln i g : Nat} {xs : Nat → Int32} {S : List (Nat × Nat)} {M : zM} {H : Heap} {locs : List Loc} {cells slots : Nat} {lsr : Array Slot} (hP : zP_trade Inv) (hst : l.stackTraces = false) (hex : ∀ g, zEX (zw l D T B Z g)) (hA : zLA (zw l D T B Z g) RL code 7 p s m args c) (hD : zLD (zw l D T B Z g) s room_1 (S, M) H locs cells slots) (hce : cells ≤ 1000 + i ∧ slots ≤ 20000 + 6 * i) (hX : va_X b Ln xs s s.heap) (hbl : b < s.heap.size) (hbA : ¬ B ≤ b) (hi : i + 6 ≤ Ln) (hLn : Ln ≤ 3072) (hl : lv_has lsr 7 (zll B b i)) (hI : Inv S M) (hsh : zP_shape Inv) (kk : ∀ M' H' locs' cells' slots' lsr', Inv S M' → zlS l D T B Z s S M' H' locs' cells' slots' (i + 6) → lv_has lsr' 7 (zll B b i) → W p l e room_1 s m args below meth c H' locs' cells' slots' Q (F0 m 1522 lsr' [])) : W p l e room_1 s m args below meth c H locs cells slots Q (F0 m 380 lsr []) := by
  obtain ⟨hx, hb, hml, hown, hG, hK, hN, hZ, hok, hBs⟩ := id hA
  obtain ⟨hs1, hs2, hs3⟩ := hsh S M hI
  refine lv_aload_n hx hb dL_law_380 rfl (lv_at hl 3 rfl) ?_
  refine lv_aload_n hx hb dL_law_381 rfl (lv_at hl 4 rfl) ?_
  refine lv_iload hx hb dL_law_382 (lv_at hl 0 rfl) ?_
  refine lv_iconst (v := 1) hx hb dL_law_384 (by decide) ?_
  refine lv_iadd hx hb dL_law_385 ?_
  refine va_sld hx hb hX hbl hbA hD.2.1 (zl_in (k := 1) (by decide) hi hLn (by decide)) dL_law_386 ?_
  refine lv_aload_n hx hb dL_law_387 rfl (lv_at hl 4 rfl) ?_
  refine lv_iload hx hb dL_law_388 (lv_at hl 0 rfl) ?_
  refine lv_iconst (v := 2) hx hb dL_law_390 (by decide) ?_
  refine lv_iadd hx hb dL_law_391 ?_
  refine va_sld hx hb hX hbl hbA hD.2.1 (zl_in (k := 2) (by decide) hi hLn (by decide)) dL_law_392 ?_
  refine lv_aload_n hx hb dL_law_393 rfl (lv_at hl 1 rfl) ?_
  have hR : ∀ mc ms : Nat, mc ≤ 1 → ms ≤ 6 → cells + mc ≤ room_1.cells ∧ slots + ms ≤ room_1.slots := by
    intro mc ms h1 h2
    have e1 : room_1.cells = 601024 := rfl
    have e2 : room_1.slots = 7293034 := rfl
    omega
  have run : ∀ (mc ms : Nat) (Qc : Array Value → State → Outcome → State → Prop), mc ≤ 1 → ms ≤ 6 → Met l yL_trade (.codeWith yL_trade cL_trade 5 (some .int) zHH :: zG) { frames := 20, cells := mc, slots := ms, locals := 1200 } (zP (zw l D T B Z g) [.ref 0, .int (xs (nI i + 1).toNatClampNeg), .int (xs (nI i + 2).toNatClampNeg), .ref 348] (S, M)) Qc mc ms (fun q => B ≤ q) →
      va_Run p l e room_1 s m args below meth c H locs cells slots mc ms (F0 m 394 lsr [.ref (B + 348), .int (xs (nI i + 2).toNatClampNeg), .int (xs (nI i + 1).toNatClampNeg), .ref (B + 0)]) [] (Qc ([.ref (B + 0), .int (xs (nI i + 1).toNatClampNeg), .int (xs (nI i + 2).toNatClampNeg), .ref (B + 348)] : List Value).toArray) (fun q => B ≤ q) := fun mc ms Qc h1 h2 hM =>
    vx_runSW (As := [.ref (B + 0), .int (xs (nI i + 1).toNatClampNeg), .int (xs (nI i + 2).toNatClampNeg), .ref (B + 348)]) (rest := []) (n := 4) ⟨hx, hb, hml, hown, hG⟩ hM (vx_cwSW 4 hG zl_ws rfl rfl rfl ⟨by decide, by decide, by decide +kernel⟩ ⟨by show 20 + 1 ≤ 2048; omega, by show 8 + (5 + 11) + 1200 ≤ 84000; omega⟩) ⟨zblind hok, zlpre hA hD [.ref 0, .int (xs (nI i + 1).toNatClampNeg), .int (xs (nI i + 2).toNatClampNeg), .ref 348]⟩ rfl rfl hl.1 rfl (Nat.zero_le 8) dL_law_394 (hR mc ms h1 h2)
  rcases hP S M hI (xs (nI i + 1).toNatClampNeg) (xs (nI i + 2).toNatClampNeg) with ⟨v, M1, M2, e1, e2, e3, e4, hI2⟩ | ⟨v, M2, e1, e2, e3, hI2⟩ | ⟨v, v2, M2, e1, e1b, e1c, e2, e3, hI2⟩
  · have hM : Met l yL_trade (.codeWith yL_trade cL_trade 5 (some .int) zHH :: zG) { frames := 20, cells := 0, slots := 0, locals := 1200 } (zP (zw l D T B Z g) [.ref 0, .int (xs (nI i + 1).toNatClampNeg), .int (xs (nI i + 2).toNatClampNeg), .ref 348] (S, M)) (zQ (zw l D T B Z g) (some (.int 0), (S, zsL M1 348 0 v.toInt64))) 0 0 (fun q => B ≤ q) := l_ok (w := zw l D T B Z g) (px := 0) (po := 348) (a := xs (nI i + 1).toNatClampNeg) (b := xs (nI i + 2).toNatClampNeg) (r := (v, M1)) hok hs1 hs3 e1
    have hr := run 0 0 _ (by omega) (by omega) hM
    obtain ⟨q1, q2⟩ := hR 0 0 (by omega) (by omega)
    refine zgo (w := zw l D T B Z g) (σ := (S, M)) (f := (some (.int 0), (S, zsL M1 348 0 v.toInt64))) (mc := 0) (ms := 0) (pc := 394) (lsr := lsr) (rest := []) hD q1 q2 hr (fun H locs hD => ?_)
    exact zl_tail (k5 := 0) (v := v) (M2 := M2) hA hD ⟨by omega, by omega⟩ hX hbl hbA hi hLn hl hs2 hs3 e2 e3 (fun _ => e4) hI2 kk
  · have hM : Met l yL_trade (.codeWith yL_trade cL_trade 5 (some .int) zHH :: zG) { frames := 20, cells := 1, slots := 6, locals := 1200 } (zP (zw l D T B Z g) [.ref 0, .int (xs (nI i + 1).toNatClampNeg), .int (xs (nI i + 2).toNatClampNeg), .ref 348] (S, M)) (zQT (zw l D T B Z g) (S, M) 1) 1 6 (fun q => B ≤ q) := l_throw (w := zw l D T B Z g) (px := 0) (po := 348) (a := xs (nI i + 1).toNatClampNeg) (b := xs (nI i + 2).toNatClampNeg) (nm := zIO) (ans := 1) (hp := 0) hok hs1 (hex g) (x_t1 (w := zw l D T B Z g) hok hst (hex g) e1) (Or.inl ⟨rfl, rfl⟩)
    have hr := run 1 6 _ (by omega) (by omega) hM
    obtain ⟨q1, q2⟩ := hR 1 6 (by omega) (by omega)
    refine zgoT (σ := (S, M)) (v := 1) (pc := 394) (lsr := lsr) (rest := []) hD q1 q2 hr (fun H locs g hD => ?_)
    exact zl_tail (g := g) (k5 := 1) (v := v) (M2 := M2) hA hD ⟨by omega, by omega⟩ hX hbl hbA hi hLn hl hs2 hs3 e2 e3 (fun h => absurd h (by decide)) hI2 kk
  · have hM : Met l yL_trade (.codeWith yL_trade cL_trade 5 (some .int) zHH :: zG) { frames := 20, cells := 1, slots := 6, locals := 1200 } (zP (zw l D T B Z g) [.ref 0, .int (xs (nI i + 1).toNatClampNeg), .int (xs (nI i + 2).toNatClampNeg), .ref 348] (S, M)) (zQT (zw l D T B Z g) (S, M) 2) 1 6 (fun q => B ≤ q) := l_throw (w := zw l D T B Z g) (px := 0) (po := 348) (a := xs (nI i + 1).toNatClampNeg) (b := xs (nI i + 2).toNatClampNeg) (nm := zNS) (ans := 2) (hp := 0) hok hs1 (hex g) (x_t2 (w := zw l D T B Z g) hok hst (hex g) e1 e1b e1c) (Or.inr ⟨rfl, rfl⟩)
    have hr := run 1 6 _ (by omega) (by omega) hM
    obtain ⟨q1, q2⟩ := hR 1 6 (by omega) (by omega)
    refine zgoT (σ := (S, M)) (v := 2) (pc := 394) (lsr := lsr) (rest := []) hD q1 q2 hr (fun H locs g hD => ?_)
    exact zl_tail (g := g) (k5 := 2) (v := v) (M2 := M2) hA hD ⟨by omega, by omega⟩ hX hbl hbA hi hLn hl hs2 hs3 e2 e3 (fun h => absurd h (by decide)) hI2 kk
