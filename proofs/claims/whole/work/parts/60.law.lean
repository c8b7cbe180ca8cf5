/-! the law's loop: written by wip/whole/gen/mklaw.py -/
abbrev zw (l : Launch) (D : va_G) (T : Nat → ClassId) (B : Nat) (Z : State → Prop) (g : Nat) : zWd := (l, D, T, B, Z, g)
theorem zcmp (x : Int64) : lg_cmp x x = 0 := by unfold lg_cmp; simp
/-- the loop's state: the heap is that of the places, the locals are the law's -/
def zlS (l : Launch) (D : va_G) (T : Nat → ClassId) (B : Nat) (Z : State → Prop) (s : State) (S : List (Nat × Nat)) (M : zM) (H : Heap) (locs : List Loc) (cells slots i : Nat) : Prop :=
  ∃ g, zLD (zw l D T B Z g) s room_1 (S, M) H locs cells slots ∧ cells ≤ 1000 + i ∧ slots ≤ 20000 + 6 * i
def zll (B b : Nat) (i : Nat) : List (Nat × Value) := [(4, .int (nI i)), (3, .ref (B + 348)), (2, .ref (B + 306)), (1, .ref (B + 0)), (0, .ref b)]
theorem zl_in {i k Ln : Nat} (hk : k < 6) (hi : i + 6 ≤ Ln) (hLn : Ln ≤ 3072) {c : Int32} (hc : c = nI k) : vp_in (nI i + c) Ln := by
  rw [hc, nI_add]
  exact vp_in_nI (by omega) (by omega)
theorem zl_in0 {i Ln : Nat} (hi : i + 6 ≤ Ln) (hLn : Ln ≤ 3072) : vp_in (nI i) Ln := vp_in_nI (by omega) (by omega)
theorem zl_b01 {p : Program} {l : Launch} {e : Env} {R : Room} {s : State} {m : MethodId} {args : Array Value} {below : List Frame} {meth : Method} {c : Code} {H : Heap} {locs : List Loc} {cells slots : Nat} {Q : State → Prop} {ls : Array Slot} {rest : List Value} {x z : Int32} {pc t1 : Nat} {o1 o2 : Int} (hx : p.tables.exec = Jvm.exec) (hb : c.code = code) (d0 : decode code pc = .ok (.ifCond .eq o1, 3)) (d1 : decode code (pc + 3) = .ok (.iconst 1, 1)) (d2 : decode code (pc + 4) = .ok (.goto o2, 3)) (d3 : decode code t1 = .ok (.iconst 0, 1)) (h1 : (pc : Int) + o1 = (t1 : Int)) (h2 : ((pc + 4 : Nat) : Int) + o2 = ((t1 + 1 : Nat) : Int)) (hz : z = if x = 0 then 0 else 1)
    (kk : W p l e R s m args below meth c H locs cells slots Q (F0 m (t1 + 1) ls (.int z :: rest))) : W p l e R s m args below meth c H locs cells slots Q (F0 m pc ls (.int x :: rest)) := by
  subst hz
  refine lv_if_eq (tgt := t1) hx hb d0 h1 (fun h => ?_) (fun h => ?_)
  · refine lv_iconst (v := 0) hx hb d3 (by decide) ?_
    rw [if_pos h] at kk
    exact kk
  · refine lv_iconst (v := 1) hx hb d1 (by decide) ?_
    refine lv_goto (tgt := t1 + 1) hx hb d2 h2 ?_
    rw [if_neg h] at kk
    exact kk
set_option maxHeartbeats 4000000 in
set_option maxRecDepth 100000 in
theorem zl_feed {Inv : List (Nat × Nat) → zM → Prop} {l : Launch} {D : va_G} {T : Nat → ClassId} {B : Nat} {Z : State → Prop} {p : Program} {e : Env} {s : State} {m : MethodId} {args : Array Value} {below : List Frame} {meth : Method} {c : Code} {Q : State → Prop} {b Ln i g : Nat} {xs : Nat → Int32} {S : List (Nat × Nat)} {M : zM} {H : Heap} {locs : List Loc} {cells slots : Nat} {lsr : Array Slot} (hP : zP_feed Inv) (hA : zLA (zw l D T B Z g) RL code 7 p s m args c) (hD : zLD (zw l D T B Z g) s room_1 (S, M) H locs cells slots) (hce : cells ≤ 1000 + i ∧ slots ≤ 20000 + 6 * i) (hX : va_X b Ln xs s s.heap) (hbl : b < s.heap.size) (hbA : ¬ B ≤ b) (hi : i + 6 ≤ Ln) (hLn : Ln ≤ 3072) (hl : lv_has lsr 7 (zll B b i)) (hI : Inv S M) (hsh : zP_shape Inv) (kk : ∀ M' H' locs' cells' slots' lsr', Inv S M' → zlS l D T B Z s S M' H' locs' cells' slots' (i + 6) → lv_has lsr' 7 (zll B b i) → W p l e room_1 s m args below meth c H' locs' cells' slots' Q (F0 m 1522 lsr' [])) : W p l e room_1 s m args below meth c H locs cells slots Q (F0 m 220 lsr []) := by
  obtain ⟨hx, hb, -⟩ := id hA
  obtain ⟨hs1, hs2, -⟩ := hsh S M hI
  obtain ⟨v, M1, M2, e1, e2, hI2⟩ := hP S M hI (xs (nI i + 1).toNatClampNeg) (xs (nI i + 2).toNatClampNeg) (xs (nI i + 3).toNatClampNeg) (xs (nI i + 4).toNatClampNeg) (xs (nI i + 5).toNatClampNeg)
  refine lv_aload_n hx hb dL_law_220 rfl (lv_at hl 3 rfl) ?_
  refine lv_aload_n hx hb dL_law_221 rfl (lv_at hl 4 rfl) ?_
  refine lv_iload hx hb dL_law_222 (lv_at hl 0 rfl) ?_
  refine lv_iconst (v := 1) hx hb dL_law_224 (by decide) ?_
  refine lv_iadd hx hb dL_law_225 ?_
  refine va_sld hx hb hX hbl hbA hD.2.1 (zl_in (k := 1) (by decide) hi hLn (by decide)) dL_law_226 ?_
  refine lv_aload_n hx hb dL_law_227 rfl (lv_at hl 4 rfl) ?_
  refine lv_iload hx hb dL_law_228 (lv_at hl 0 rfl) ?_
  refine lv_iconst (v := 2) hx hb dL_law_230 (by decide) ?_
  refine lv_iadd hx hb dL_law_231 ?_
  refine va_sld hx hb hX hbl hbA hD.2.1 (zl_in (k := 2) (by decide) hi hLn (by decide)) dL_law_232 ?_
  refine lv_aload_n hx hb dL_law_233 rfl (lv_at hl 4 rfl) ?_
  refine lv_iload hx hb dL_law_234 (lv_at hl 0 rfl) ?_
  refine lv_iconst (v := 3) hx hb dL_law_236 (by decide) ?_
  refine lv_iadd hx hb dL_law_237 ?_
  refine va_sld hx hb hX hbl hbA hD.2.1 (zl_in (k := 3) (by decide) hi hLn (by decide)) dL_law_238 ?_
  refine lv_aload_n hx hb dL_law_239 rfl (lv_at hl 4 rfl) ?_
  refine lv_iload hx hb dL_law_240 (lv_at hl 0 rfl) ?_
  refine lv_iconst (v := 4) hx hb dL_law_242 (by decide) ?_
  refine lv_iadd hx hb dL_law_243 ?_
  refine va_sld hx hb hX hbl hbA hD.2.1 (zl_in (k := 4) (by decide) hi hLn (by decide)) dL_law_244 ?_
  refine lv_aload_n hx hb dL_law_245 rfl (lv_at hl 4 rfl) ?_
  refine lv_iload hx hb dL_law_246 (lv_at hl 0 rfl) ?_
  refine lv_iconst (v := 5) hx hb dL_law_248 (by decide) ?_
  refine lv_iadd hx hb dL_law_249 ?_
  refine va_sld hx hb hX hbl hbA hD.2.1 (zl_in (k := 5) (by decide) hi hLn (by decide)) dL_law_250 ?_
  refine zlV (w := zw l D T B Z g) (k := 0) (as := [.int (xs (nI i + 1).toNatClampNeg), .int (xs (nI i + 2).toNatClampNeg), .int (xs (nI i + 3).toNatClampNeg), .int (xs (nI i + 4).toNatClampNeg), .int (xs (nI i + 5).toNatClampNeg)]) (rest := []) hA hD (c_X11_feed (zw l D T B Z g) S 0 _ _ _ _ _ M) e1 rfl mv_X11_feed rfl hs1 zg_603 (by decide) hl.1 (Nat.le_of_ble_eq_true rfl) dL_law_251 (fun H locs hD => ?_)
  refine lv_aload_n hx hb dL_law_254 rfl (lv_at hl 2 rfl) ?_
  refine lv_aload_n hx hb dL_law_255 rfl (lv_at hl 4 rfl) ?_
  refine lv_iload hx hb dL_law_256 (lv_at hl 0 rfl) ?_
  refine lv_iconst (v := 1) hx hb dL_law_258 (by decide) ?_
  refine lv_iadd hx hb dL_law_259 ?_
  refine va_sld hx hb hX hbl hbA hD.2.1 (zl_in (k := 1) (by decide) hi hLn (by decide)) dL_law_260 ?_
  refine lv_aload_n hx hb dL_law_261 rfl (lv_at hl 4 rfl) ?_
  refine lv_iload hx hb dL_law_262 (lv_at hl 0 rfl) ?_
  refine lv_iconst (v := 2) hx hb dL_law_264 (by decide) ?_
  refine lv_iadd hx hb dL_law_265 ?_
  refine va_sld hx hb hX hbl hbA hD.2.1 (zl_in (k := 2) (by decide) hi hLn (by decide)) dL_law_266 ?_
  refine lv_aload_n hx hb dL_law_267 rfl (lv_at hl 4 rfl) ?_
  refine lv_iload hx hb dL_law_268 (lv_at hl 0 rfl) ?_
  refine lv_iconst (v := 3) hx hb dL_law_270 (by decide) ?_
  refine lv_iadd hx hb dL_law_271 ?_
  refine va_sld hx hb hX hbl hbA hD.2.1 (zl_in (k := 3) (by decide) hi hLn (by decide)) dL_law_272 ?_
  refine lv_aload_n hx hb dL_law_273 rfl (lv_at hl 4 rfl) ?_
  refine lv_iload hx hb dL_law_274 (lv_at hl 0 rfl) ?_
  refine lv_iconst (v := 4) hx hb dL_law_276 (by decide) ?_
  refine lv_iadd hx hb dL_law_277 ?_
  refine va_sld hx hb hX hbl hbA hD.2.1 (zl_in (k := 4) (by decide) hi hLn (by decide)) dL_law_278 ?_
  refine lv_aload_n hx hb dL_law_279 rfl (lv_at hl 4 rfl) ?_
  refine lv_iload hx hb dL_law_280 (lv_at hl 0 rfl) ?_
  refine lv_iconst (v := 5) hx hb dL_law_282 (by decide) ?_
  refine lv_iadd hx hb dL_law_283 ?_
  refine va_sld hx hb hX hbl hbA hD.2.1 (zl_in (k := 5) (by decide) hi hLn (by decide)) dL_law_284 ?_
  refine zlV (w := zw l D T B Z g) (k := 306) (as := [.int (xs (nI i + 1).toNatClampNeg), .int (xs (nI i + 2).toNatClampNeg), .int (xs (nI i + 3).toNatClampNeg), .int (xs (nI i + 4).toNatClampNeg), .int (xs (nI i + 5).toNatClampNeg)]) (rest := [.int (v)]) hA hD (c_X12_feed (zw l D T B Z g) S 306 _ _ _ _ _ M1) e2 rfl mv_X12_feed rfl hs2 zg_1554 (by decide) hl.1 (Nat.le_of_ble_eq_true rfl) dL_law_285 (fun H locs hD => ?_)
  refine lv_icmp_eq (tgt := 1522) hx hb dL_law_288 (by decide) (fun _ => ?_) (fun h => absurd rfl h)
  exact kk M2 H locs cells slots lsr hI2 ⟨g, hD, by omega, by omega⟩ hl
set_option maxHeartbeats 4000000 in
set_option maxRecDepth 100000 in
theorem zl_text {Inv : List (Nat × Nat) → zM → Prop} {l : Launch} {D : va_G} {T : Nat → ClassId} {B : Nat} {Z : State → Prop} {p : Program} {e : Env} {s : State} {m : MethodId} {args : Array Value} {below : List Frame} {meth : Method} {c : Code} {Q : State → Prop} {b Ln i g : Nat} {xs : Nat → Int32} {S : List (Nat × Nat)} {M : zM} {H : Heap} {locs : List Loc} {cells slots : Nat} {lsr : Array Slot} (hP : zP_text Inv) (hz : zSZ (zw l D T B Z g)) (hA : zLA (zw l D T B Z g) RL code 7 p s m args c) (hD : zLD (zw l D T B Z g) s room_1 (S, M) H locs cells slots) (hce : cells ≤ 1000 + i ∧ slots ≤ 20000 + 6 * i) (hX : va_X b Ln xs s s.heap) (hbl : b < s.heap.size) (hbA : ¬ B ≤ b) (hi : i + 6 ≤ Ln) (hLn : Ln ≤ 3072) (hl : lv_has lsr 7 (zll B b i)) (hI : Inv S M) (hsh : zP_shape Inv) (kk : ∀ M' H' locs' cells' slots' lsr', Inv S M' → zlS l D T B Z s S M' H' locs' cells' slots' (i + 6) → lv_has lsr' 7 (zll B b i) → W p l e room_1 s m args below meth c H' locs' cells' slots' Q (F0 m 1522 lsr' [])) : W p l e room_1 s m args below meth c H locs cells slots Q (F0 m 293 lsr []) := by
  obtain ⟨hx, hb, -⟩ := id hA
  obtain ⟨hs1, hs2, -⟩ := hsh S M hI
  obtain ⟨v, M1, M2, e1, e2, hI2⟩ := hP S M hI (xs (nI i + 1).toNatClampNeg)
  refine lv_aload_n hx hb dL_law_293 rfl (lv_at hl 3 rfl) ?_
  refine lv_aload_n hx hb dL_law_294 rfl (lv_at hl 4 rfl) ?_
  refine lv_iload hx hb dL_law_295 (lv_at hl 0 rfl) ?_
  refine lv_iconst (v := 1) hx hb dL_law_297 (by decide) ?_
  refine lv_iadd hx hb dL_law_298 ?_
  refine va_sld hx hb hX hbl hbA hD.2.1 (zl_in (k := 1) (by decide) hi hLn (by decide)) dL_law_299 ?_
  refine zlV (w := zw l D T B Z g) (k := 0) (as := [.int (xs (nI i + 1).toNatClampNeg)]) (rest := []) hA hD (c_X11_text (zw l D T B Z g) S 0 _ M) e1 rfl mv_X11_text rfl hs1 zg_612 (by decide) hl.1 (Nat.le_of_ble_eq_true rfl) dL_law_300 (fun H locs hD => ?_)
  refine lv_aload_n hx hb dL_law_303 rfl (lv_at hl 2 rfl) ?_
  refine lv_aload_n hx hb dL_law_304 rfl (lv_at hl 4 rfl) ?_
  refine lv_iload hx hb dL_law_305 (lv_at hl 0 rfl) ?_
  refine lv_iconst (v := 1) hx hb dL_law_307 (by decide) ?_
  refine lv_iadd hx hb dL_law_308 ?_
  refine va_sld hx hb hX hbl hbA hD.2.1 (zl_in (k := 1) (by decide) hi hLn (by decide)) dL_law_309 ?_
  refine zlV (w := zw l D T B Z g) (k := 306) (as := [.int (xs (nI i + 1).toNatClampNeg)]) (rest := [.int (v)]) hA hD (c_X12_text (zw l D T B Z g) hz S 306 _ M1) e2 rfl mv_X12_text rfl hs2 zg_1558 (by decide) hl.1 (Nat.le_of_ble_eq_true rfl) dL_law_310 (fun H locs hD => ?_)
  refine lv_icmp_eq (tgt := 1522) hx hb dL_law_313 (by decide) (fun _ => ?_) (fun h => absurd rfl h)
  exact kk M2 H locs cells slots lsr hI2 ⟨g, hD, by omega, by omega⟩ hl
set_option maxHeartbeats 4000000 in
set_option maxRecDepth 100000 in
theorem zl_fault {Inv : List (Nat × Nat) → zM → Prop} {l : Launch} {D : va_G} {T : Nat → ClassId} {B : Nat} {Z : State → Prop} {p : Program} {e : Env} {s : State} {m : MethodId} {args : Array Value} {below : List Frame} {meth : Method} {c : Code} {Q : State → Prop} {b Ln i g : Nat} {xs : Nat → Int32} {S : List (Nat × Nat)} {M : zM} {H : Heap} {locs : List Loc} {cells slots : Nat} {lsr : Array Slot} (hP : zP_fault Inv) (hA : zLA (zw l D T B Z g) RL code 7 p s m args c) (hD : zLD (zw l D T B Z g) s room_1 (S, M) H locs cells slots) (hce : cells ≤ 1000 + i ∧ slots ≤ 20000 + 6 * i) (hX : va_X b Ln xs s s.heap) (hbl : b < s.heap.size) (hbA : ¬ B ≤ b) (hi : i + 6 ≤ Ln) (hLn : Ln ≤ 3072) (hl : lv_has lsr 7 (zll B b i)) (hI : Inv S M) (hsh : zP_shape Inv) (kk : ∀ M' H' locs' cells' slots' lsr', Inv S M' → zlS l D T B Z s S M' H' locs' cells' slots' (i + 6) → lv_has lsr' 7 (zll B b i) → W p l e room_1 s m args below meth c H' locs' cells' slots' Q (F0 m 1522 lsr' [])) : W p l e room_1 s m args below meth c H locs cells slots Q (F0 m 318 lsr []) := by
  obtain ⟨hx, hb, -⟩ := id hA
  obtain ⟨hs1, hs2, -⟩ := hsh S M hI
  obtain ⟨v, M2, e1, e2, hI2⟩ := hP S M hI (xs (nI i + 1).toNatClampNeg)
  refine lv_aload_n hx hb dL_law_318 rfl (lv_at hl 3 rfl) ?_
  refine lv_aload_n hx hb dL_law_319 rfl (lv_at hl 4 rfl) ?_
  refine lv_iload hx hb dL_law_320 (lv_at hl 0 rfl) ?_
  refine lv_iconst (v := 1) hx hb dL_law_322 (by decide) ?_
  refine lv_iadd hx hb dL_law_323 ?_
  refine va_sld hx hb hX hbl hbA hD.2.1 (zl_in (k := 1) (by decide) hi hLn (by decide)) dL_law_324 ?_
  refine zlV (w := zw l D T B Z g) (k := 0) (as := [.int (xs (nI i + 1).toNatClampNeg)]) (rest := []) hA hD (c_X11_fault (zw l D T B Z g) S 0 _ M) e1 rfl mv_X11_fault rfl hs1 zg_815 (by decide) hl.1 (Nat.le_of_ble_eq_true rfl) dL_law_325 (fun H locs hD => ?_)
  refine lv_aload_n hx hb dL_law_328 rfl (lv_at hl 2 rfl) ?_
  refine lv_aload_n hx hb dL_law_329 rfl (lv_at hl 4 rfl) ?_
  refine lv_iload hx hb dL_law_330 (lv_at hl 0 rfl) ?_
  refine lv_iconst (v := 1) hx hb dL_law_332 (by decide) ?_
  refine lv_iadd hx hb dL_law_333 ?_
  refine va_sld hx hb hX hbl hbA hD.2.1 (zl_in (k := 1) (by decide) hi hLn (by decide)) dL_law_334 ?_
  refine zlV (w := zw l D T B Z g) (k := 306) (as := [.int (xs (nI i + 1).toNatClampNeg)]) (rest := [.int (v)]) hA hD (c_X12_fault (zw l D T B Z g) S 306 _ M) e2 rfl mv_X12_fault rfl hs2 zg_1682 (by decide) hl.1 (Nat.le_of_ble_eq_true rfl) dL_law_335 (fun H locs hD => ?_)
  refine lv_icmp_eq (tgt := 1522) hx hb dL_law_338 (by decide) (fun _ => ?_) (fun h => absurd rfl h)
  exact kk M2 H locs cells slots lsr hI2 ⟨g, hD, by omega, by omega⟩ hl
set_option maxHeartbeats 4000000 in
set_option maxRecDepth 100000 in
theorem zl_named {Inv : List (Nat × Nat) → zM → Prop} {l : Launch} {D : va_G} {T : Nat → ClassId} {B : Nat} {Z : State → Prop} {p : Program} {e : Env} {s : State} {m : MethodId} {args : Array Value} {below : List Frame} {meth : Method} {c : Code} {Q : State → Prop} {b Ln i g : Nat} {xs : Nat → Int32} {S : List (Nat × Nat)} {M : zM} {H : Heap} {locs : List Loc} {cells slots : Nat} {lsr : Array Slot} (hP : zP_named Inv) (hA : zLA (zw l D T B Z g) RL code 7 p s m args c) (hD : zLD (zw l D T B Z g) s room_1 (S, M) H locs cells slots) (hce : cells ≤ 1000 + i ∧ slots ≤ 20000 + 6 * i) (hX : va_X b Ln xs s s.heap) (hbl : b < s.heap.size) (hbA : ¬ B ≤ b) (hi : i + 6 ≤ Ln) (hLn : Ln ≤ 3072) (hl : lv_has lsr 7 (zll B b i)) (hI : Inv S M) (hsh : zP_shape Inv) (kk : ∀ M' H' locs' cells' slots' lsr', Inv S M' → zlS l D T B Z s S M' H' locs' cells' slots' (i + 6) → lv_has lsr' 7 (zll B b i) → W p l e room_1 s m args below meth c H' locs' cells' slots' Q (F0 m 1522 lsr' [])) : W p l e room_1 s m args below meth c H locs cells slots Q (F0 m 343 lsr []) := by
  obtain ⟨hx, hb, -⟩ := id hA
  obtain ⟨hs1, hs2, -⟩ := hsh S M hI
  obtain ⟨v, M2, e1, e2, hI2⟩ := hP S M hI (xs (nI i + 1).toNatClampNeg) (xs (nI i + 2).toNatClampNeg)
  refine lv_aload_n hx hb dL_law_343 rfl (lv_at hl 3 rfl) ?_
  refine lv_aload_n hx hb dL_law_344 rfl (lv_at hl 4 rfl) ?_
  refine lv_iload hx hb dL_law_345 (lv_at hl 0 rfl) ?_
  refine lv_iconst (v := 1) hx hb dL_law_347 (by decide) ?_
  refine lv_iadd hx hb dL_law_348 ?_
  refine va_sld hx hb hX hbl hbA hD.2.1 (zl_in (k := 1) (by decide) hi hLn (by decide)) dL_law_349 ?_
  refine lv_aload_n hx hb dL_law_350 rfl (lv_at hl 4 rfl) ?_
  refine lv_iload hx hb dL_law_351 (lv_at hl 0 rfl) ?_
  refine lv_iconst (v := 2) hx hb dL_law_353 (by decide) ?_
  refine lv_iadd hx hb dL_law_354 ?_
  refine va_sld hx hb hX hbl hbA hD.2.1 (zl_in (k := 2) (by decide) hi hLn (by decide)) dL_law_355 ?_
  refine zlV (w := zw l D T B Z g) (k := 0) (as := [.int (xs (nI i + 1).toNatClampNeg), .int (xs (nI i + 2).toNatClampNeg)]) (rest := []) hA hD (c_X11_named (zw l D T B Z g) S 0 _ _ M) e1 rfl mv_X11_named rfl hs1 zg_819 (by decide) hl.1 (Nat.le_of_ble_eq_true rfl) dL_law_356 (fun H locs hD => ?_)
  refine lv_aload_n hx hb dL_law_359 rfl (lv_at hl 2 rfl) ?_
  refine lv_aload_n hx hb dL_law_360 rfl (lv_at hl 4 rfl) ?_
  refine lv_iload hx hb dL_law_361 (lv_at hl 0 rfl) ?_
  refine lv_iconst (v := 1) hx hb dL_law_363 (by decide) ?_
  refine lv_iadd hx hb dL_law_364 ?_
  refine va_sld hx hb hX hbl hbA hD.2.1 (zl_in (k := 1) (by decide) hi hLn (by decide)) dL_law_365 ?_
  refine lv_aload_n hx hb dL_law_366 rfl (lv_at hl 4 rfl) ?_
  refine lv_iload hx hb dL_law_367 (lv_at hl 0 rfl) ?_
  refine lv_iconst (v := 2) hx hb dL_law_369 (by decide) ?_
  refine lv_iadd hx hb dL_law_370 ?_
  refine va_sld hx hb hX hbl hbA hD.2.1 (zl_in (k := 2) (by decide) hi hLn (by decide)) dL_law_371 ?_
  refine zlV (w := zw l D T B Z g) (k := 306) (as := [.int (xs (nI i + 1).toNatClampNeg), .int (xs (nI i + 2).toNatClampNeg)]) (rest := [.int (v)]) hA hD (c_X12_named (zw l D T B Z g) S 306 _ _ M) e2 rfl mv_X12_named rfl hs2 zg_1686 (by decide) hl.1 (Nat.le_of_ble_eq_true rfl) dL_law_372 (fun H locs hD => ?_)
  refine lv_icmp_eq (tgt := 1522) hx hb dL_law_375 (by decide) (fun _ => ?_) (fun h => absurd rfl h)
  exact kk M2 H locs cells slots lsr hI2 ⟨g, hD, by omega, by omega⟩ hl
set_option maxHeartbeats 4000000 in
set_option maxRecDepth 100000 in
theorem zl_place {Inv : List (Nat × Nat) → zM → Prop} {l : Launch} {D : va_G} {T : Nat → ClassId} {B : Nat} {Z : State → Prop} {p : Program} {e : Env} {s : State} {m : MethodId} {args : Array Value} {below : List Frame} {meth : Method} {c : Code} {Q : State → Prop} {b Ln i g : Nat} {xs : Nat → Int32} {S : List (Nat × Nat)} {M : zM} {H : Heap} {locs : List Loc} {cells slots : Nat} {lsr : Array Slot} (hP : zP_place Inv) (hA : zLA (zw l D T B Z g) RL code 7 p s m args c) (hD : zLD (zw l D T B Z g) s room_1 (S, M) H locs cells slots) (hce : cells ≤ 1000 + i ∧ slots ≤ 20000 + 6 * i) (hX : va_X b Ln xs s s.heap) (hbl : b < s.heap.size) (hbA : ¬ B ≤ b) (hi : i + 6 ≤ Ln) (hLn : Ln ≤ 3072) (hl : lv_has lsr 7 (zll B b i)) (hI : Inv S M) (hsh : zP_shape Inv) (kk : ∀ M' H' locs' cells' slots' lsr', Inv S M' → zlS l D T B Z s S M' H' locs' cells' slots' (i + 6) → lv_has lsr' 7 (zll B b i) → W p l e room_1 s m args below meth c H' locs' cells' slots' Q (F0 m 1522 lsr' [])) : W p l e room_1 s m args below meth c H locs cells slots Q (F0 m 448 lsr []) := by
  obtain ⟨hx, hb, -⟩ := id hA
  obtain ⟨hs1, hs2, -⟩ := hsh S M hI
  obtain ⟨v, M2, e1, e2, hI2⟩ := hP S M hI (xs (nI i + 1).toNatClampNeg)
  refine lv_aload_n hx hb dL_law_448 rfl (lv_at hl 3 rfl) ?_
  refine lv_aload_n hx hb dL_law_449 rfl (lv_at hl 4 rfl) ?_
  refine lv_iload hx hb dL_law_450 (lv_at hl 0 rfl) ?_
  refine lv_iconst (v := 1) hx hb dL_law_452 (by decide) ?_
  refine lv_iadd hx hb dL_law_453 ?_
  refine va_sld hx hb hX hbl hbA hD.2.1 (zl_in (k := 1) (by decide) hi hLn (by decide)) dL_law_454 ?_
  refine zlV (w := zw l D T B Z g) (k := 0) (as := [.int (xs (nI i + 1).toNatClampNeg)]) (rest := []) hA hD (c_X11_place (zw l D T B Z g) S 0 _ M) e1 rfl mv_X11_place rfl hs1 zg_825 (by decide) hl.1 (Nat.le_of_ble_eq_true rfl) dL_law_455 (fun H locs hD => ?_)
  refine lv_aload_n hx hb dL_law_458 rfl (lv_at hl 2 rfl) ?_
  refine lv_aload_n hx hb dL_law_459 rfl (lv_at hl 4 rfl) ?_
  refine lv_iload hx hb dL_law_460 (lv_at hl 0 rfl) ?_
  refine lv_iconst (v := 1) hx hb dL_law_462 (by decide) ?_
  refine lv_iadd hx hb dL_law_463 ?_
  refine va_sld hx hb hX hbl hbA hD.2.1 (zl_in (k := 1) (by decide) hi hLn (by decide)) dL_law_464 ?_
  refine zlV (w := zw l D T B Z g) (k := 306) (as := [.int (xs (nI i + 1).toNatClampNeg)]) (rest := [.int (v)]) hA hD (c_X12_place (zw l D T B Z g) S 306 _ M) e2 rfl mv_X12_place rfl hs2 zg_1702 (by decide) hl.1 (Nat.le_of_ble_eq_true rfl) dL_law_465 (fun H locs hD => ?_)
  refine lv_icmp_eq (tgt := 1522) hx hb dL_law_468 (by decide) (fun _ => ?_) (fun h => absurd rfl h)
  exact kk M2 H locs cells slots lsr hI2 ⟨g, hD, by omega, by omega⟩ hl
set_option maxHeartbeats 4000000 in
set_option maxRecDepth 100000 in
theorem zl_work {Inv : List (Nat × Nat) → zM → Prop} {l : Launch} {D : va_G} {T : Nat → ClassId} {B : Nat} {Z : State → Prop} {p : Program} {e : Env} {s : State} {m : MethodId} {args : Array Value} {below : List Frame} {meth : Method} {c : Code} {Q : State → Prop} {b Ln i g : Nat} {xs : Nat → Int32} {S : List (Nat × Nat)} {M : zM} {H : Heap} {locs : List Loc} {cells slots : Nat} {lsr : Array Slot} (hP : zP_work Inv) (hA : zLA (zw l D T B Z g) RL code 7 p s m args c) (hD : zLD (zw l D T B Z g) s room_1 (S, M) H locs cells slots) (hce : cells ≤ 1000 + i ∧ slots ≤ 20000 + 6 * i) (hX : va_X b Ln xs s s.heap) (hbl : b < s.heap.size) (hbA : ¬ B ≤ b) (hi : i + 6 ≤ Ln) (hLn : Ln ≤ 3072) (hl : lv_has lsr 7 (zll B b i)) (hI : Inv S M) (hsh : zP_shape Inv) (kk : ∀ M' H' locs' cells' slots' lsr', Inv S M' → zlS l D T B Z s S M' H' locs' cells' slots' (i + 6) → lv_has lsr' 7 (zll B b i) → W p l e room_1 s m args below meth c H' locs' cells' slots' Q (F0 m 1522 lsr' [])) : W p l e room_1 s m args below meth c H locs cells slots Q (F0 m 473 lsr []) := by
  obtain ⟨hx, hb, -⟩ := id hA
  obtain ⟨hs1, hs2, -⟩ := hsh S M hI
  obtain ⟨v, M2, e1, e2, hI2⟩ := hP S M hI (xs (nI i + 1).toNatClampNeg) (xs (nI i + 2).toNatClampNeg)
  refine lv_aload_n hx hb dL_law_473 rfl (lv_at hl 3 rfl) ?_
  refine lv_aload_n hx hb dL_law_474 rfl (lv_at hl 4 rfl) ?_
  refine lv_iload hx hb dL_law_475 (lv_at hl 0 rfl) ?_
  refine lv_iconst (v := 1) hx hb dL_law_477 (by decide) ?_
  refine lv_iadd hx hb dL_law_478 ?_
  refine va_sld hx hb hX hbl hbA hD.2.1 (zl_in (k := 1) (by decide) hi hLn (by decide)) dL_law_479 ?_
  refine lv_aload_n hx hb dL_law_480 rfl (lv_at hl 4 rfl) ?_
  refine lv_iload hx hb dL_law_481 (lv_at hl 0 rfl) ?_
  refine lv_iconst (v := 2) hx hb dL_law_483 (by decide) ?_
  refine lv_iadd hx hb dL_law_484 ?_
  refine va_sld hx hb hX hbl hbA hD.2.1 (zl_in (k := 2) (by decide) hi hLn (by decide)) dL_law_485 ?_
  refine zlV (w := zw l D T B Z g) (k := 0) (as := [.int (xs (nI i + 1).toNatClampNeg), .int (xs (nI i + 2).toNatClampNeg)]) (rest := []) hA hD (c_X11_work (zw l D T B Z g) S 0 _ _ M) e1 rfl mv_X11_work rfl hs1 zg_834 (by decide) hl.1 (Nat.le_of_ble_eq_true rfl) dL_law_486 (fun H locs hD => ?_)
  refine lv_aload_n hx hb dL_law_489 rfl (lv_at hl 2 rfl) ?_
  refine lv_aload_n hx hb dL_law_490 rfl (lv_at hl 4 rfl) ?_
  refine lv_iload hx hb dL_law_491 (lv_at hl 0 rfl) ?_
  refine lv_iconst (v := 1) hx hb dL_law_493 (by decide) ?_
  refine lv_iadd hx hb dL_law_494 ?_
  refine va_sld hx hb hX hbl hbA hD.2.1 (zl_in (k := 1) (by decide) hi hLn (by decide)) dL_law_495 ?_
  refine lv_aload_n hx hb dL_law_496 rfl (lv_at hl 4 rfl) ?_
  refine lv_iload hx hb dL_law_497 (lv_at hl 0 rfl) ?_
  refine lv_iconst (v := 2) hx hb dL_law_499 (by decide) ?_
  refine lv_iadd hx hb dL_law_500 ?_
  refine va_sld hx hb hX hbl hbA hD.2.1 (zl_in (k := 2) (by decide) hi hLn (by decide)) dL_law_501 ?_
  refine zlV (w := zw l D T B Z g) (k := 306) (as := [.int (xs (nI i + 1).toNatClampNeg), .int (xs (nI i + 2).toNatClampNeg)]) (rest := [.int (v)]) hA hD (c_X12_work (zw l D T B Z g) S 306 _ _ M) e2 rfl mv_X12_work rfl hs2 zg_1710 (by decide) hl.1 (Nat.le_of_ble_eq_true rfl) dL_law_502 (fun H locs hD => ?_)
  refine lv_icmp_eq (tgt := 1522) hx hb dL_law_505 (by decide) (fun _ => ?_) (fun h => absurd rfl h)
  exact kk M2 H locs cells slots lsr hI2 ⟨g, hD, by omega, by omega⟩ hl
set_option maxHeartbeats 4000000 in
set_option maxRecDepth 100000 in
theorem zl_law {Inv : List (Nat × Nat) → zM → Prop} {l : Launch} {D : va_G} {T : Nat → ClassId} {B : Nat} {Z : State → Prop} {p : Program} {e : Env} {s : State} {m : MethodId} {args : Array Value} {below : List Frame} {meth : Method} {c : Code} {Q : State → Prop} {b Ln i g : Nat} {xs : Nat → Int32} {S : List (Nat × Nat)} {M : zM} {H : Heap} {locs : List Loc} {cells slots : Nat} {lsr : Array Slot} (hP : zP_law Inv) (hA : zLA (zw l D T B Z g) RL code 7 p s m args c) (hD : zLD (zw l D T B Z g) s room_1 (S, M) H locs cells slots) (hce : cells ≤ 1000 + i ∧ slots ≤ 20000 + 6 * i) (hX : va_X b Ln xs s s.heap) (hbl : b < s.heap.size) (hbA : ¬ B ≤ b) (hi : i + 6 ≤ Ln) (hLn : Ln ≤ 3072) (hl : lv_has lsr 7 (zll B b i)) (hI : Inv S M) (hsh : zP_shape Inv) (kk : ∀ M' H' locs' cells' slots' lsr', Inv S M' → zlS l D T B Z s S M' H' locs' cells' slots' (i + 6) → lv_has lsr' 7 (zll B b i) → W p l e room_1 s m args below meth c H' locs' cells' slots' Q (F0 m 1522 lsr' [])) : W p l e room_1 s m args below meth c H locs cells slots Q (F0 m 510 lsr []) := by
  obtain ⟨hx, hb, -⟩ := id hA
  obtain ⟨hs1, hs2, -⟩ := hsh S M hI
  obtain ⟨v, M1, M2, e1, e2, hI2⟩ := hP S M hI (xs (nI i + 1).toNatClampNeg) (xs (nI i + 2).toNatClampNeg)
  refine lv_aload_n hx hb dL_law_510 rfl (lv_at hl 3 rfl) ?_
  refine lv_aload_n hx hb dL_law_511 rfl (lv_at hl 4 rfl) ?_
  refine lv_iload hx hb dL_law_512 (lv_at hl 0 rfl) ?_
  refine lv_iconst (v := 1) hx hb dL_law_514 (by decide) ?_
  refine lv_iadd hx hb dL_law_515 ?_
  refine va_sld hx hb hX hbl hbA hD.2.1 (zl_in (k := 1) (by decide) hi hLn (by decide)) dL_law_516 ?_
  refine lv_aload_n hx hb dL_law_517 rfl (lv_at hl 4 rfl) ?_
  refine lv_iload hx hb dL_law_518 (lv_at hl 0 rfl) ?_
  refine lv_iconst (v := 2) hx hb dL_law_520 (by decide) ?_
  refine lv_iadd hx hb dL_law_521 ?_
  refine va_sld hx hb hX hbl hbA hD.2.1 (zl_in (k := 2) (by decide) hi hLn (by decide)) dL_law_522 ?_
  refine zlV (w := zw l D T B Z g) (k := 0) (as := [.int (xs (nI i + 1).toNatClampNeg), .int (xs (nI i + 2).toNatClampNeg)]) (rest := []) hA hD (c_X11_law (zw l D T B Z g) S 0 _ _ M) e1 rfl mv_X11_law rfl hs1 zg_842 (by decide) hl.1 (Nat.le_of_ble_eq_true rfl) dL_law_523 (fun H locs hD => ?_)
  refine lv_aload_n hx hb dL_law_526 rfl (lv_at hl 2 rfl) ?_
  refine lv_aload_n hx hb dL_law_527 rfl (lv_at hl 4 rfl) ?_
  refine lv_iload hx hb dL_law_528 (lv_at hl 0 rfl) ?_
  refine lv_iconst (v := 1) hx hb dL_law_530 (by decide) ?_
  refine lv_iadd hx hb dL_law_531 ?_
  refine va_sld hx hb hX hbl hbA hD.2.1 (zl_in (k := 1) (by decide) hi hLn (by decide)) dL_law_532 ?_
  refine lv_aload_n hx hb dL_law_533 rfl (lv_at hl 4 rfl) ?_
  refine lv_iload hx hb dL_law_534 (lv_at hl 0 rfl) ?_
  refine lv_iconst (v := 2) hx hb dL_law_536 (by decide) ?_
  refine lv_iadd hx hb dL_law_537 ?_
  refine va_sld hx hb hX hbl hbA hD.2.1 (zl_in (k := 2) (by decide) hi hLn (by decide)) dL_law_538 ?_
  refine zlV (w := zw l D T B Z g) (k := 306) (as := [.int (xs (nI i + 1).toNatClampNeg), .int (xs (nI i + 2).toNatClampNeg)]) (rest := [.long (v)]) hA hD (c_X12_law (zw l D T B Z g) S 306 _ _ M1) e2 rfl mv_X12_law rfl hs2 zg_1718 (by decide) hl.1 (Nat.le_of_ble_eq_true rfl) dL_law_539 (fun H locs hD => ?_)
  refine W.lcmp hx hb dL_law_542 ?_
  refine lv_if_eq (tgt := 1522) hx hb dL_law_543 (by decide) (fun _ => ?_) (fun h => absurd (zcmp v) h)
  exact kk M2 H locs cells slots lsr hI2 ⟨g, hD, by omega, by omega⟩ hl
set_option maxHeartbeats 4000000 in
set_option maxRecDepth 100000 in
theorem zl_length {Inv : List (Nat × Nat) → zM → Prop} {l : Launch} {D : va_G} {T : Nat → ClassId} {B : Nat} {Z : State → Prop} {p : Program} {e : Env} {s : State} {m : MethodId} {args : Array Value} {below : List Frame} {meth : Method} {c : Code} {Q : State → Prop} {b Ln i g : Nat} {xs : Nat → Int32} {S : List (Nat × Nat)} {M : zM} {H : Heap} {locs : List Loc} {cells slots : Nat} {lsr : Array Slot} (hP : zP_length Inv) (hA : zLA (zw l D T B Z g) RL code 7 p s m args c) (hD : zLD (zw l D T B Z g) s room_1 (S, M) H locs cells slots) (hce : cells ≤ 1000 + i ∧ slots ≤ 20000 + 6 * i) (hX : va_X b Ln xs s s.heap) (hbl : b < s.heap.size) (hbA : ¬ B ≤ b) (hi : i + 6 ≤ Ln) (hLn : Ln ≤ 3072) (hl : lv_has lsr 7 (zll B b i)) (hI : Inv S M) (hsh : zP_shape Inv) (kk : ∀ M' H' locs' cells' slots' lsr', Inv S M' → zlS l D T B Z s S M' H' locs' cells' slots' (i + 6) → lv_has lsr' 7 (zll B b i) → W p l e room_1 s m args below meth c H' locs' cells' slots' Q (F0 m 1522 lsr' [])) : W p l e room_1 s m args below meth c H locs cells slots Q (F0 m 548 lsr []) := by
  obtain ⟨hx, hb, -⟩ := id hA
  obtain ⟨hs1, hs2, -⟩ := hsh S M hI
  obtain ⟨v, M1, M2, e1, e2, hI2⟩ := hP S M hI (xs (nI i + 1).toNatClampNeg)
  refine lv_aload_n hx hb dL_law_548 rfl (lv_at hl 3 rfl) ?_
  refine lv_aload_n hx hb dL_law_549 rfl (lv_at hl 4 rfl) ?_
  refine lv_iload hx hb dL_law_550 (lv_at hl 0 rfl) ?_
  refine lv_iconst (v := 1) hx hb dL_law_552 (by decide) ?_
  refine lv_iadd hx hb dL_law_553 ?_
  refine va_sld hx hb hX hbl hbA hD.2.1 (zl_in (k := 1) (by decide) hi hLn (by decide)) dL_law_554 ?_
  refine zlV (w := zw l D T B Z g) (k := 0) (as := [.int (xs (nI i + 1).toNatClampNeg)]) (rest := []) hA hD (c_X11_length (zw l D T B Z g) S 0 _ M) e1 rfl mv_X11_length rfl hs1 zg_884 (by decide) hl.1 (Nat.le_of_ble_eq_true rfl) dL_law_555 (fun H locs hD => ?_)
  refine lv_aload_n hx hb dL_law_558 rfl (lv_at hl 2 rfl) ?_
  refine lv_aload_n hx hb dL_law_559 rfl (lv_at hl 4 rfl) ?_
  refine lv_iload hx hb dL_law_560 (lv_at hl 0 rfl) ?_
  refine lv_iconst (v := 1) hx hb dL_law_562 (by decide) ?_
  refine lv_iadd hx hb dL_law_563 ?_
  refine va_sld hx hb hX hbl hbA hD.2.1 (zl_in (k := 1) (by decide) hi hLn (by decide)) dL_law_564 ?_
  refine zlV (w := zw l D T B Z g) (k := 306) (as := [.int (xs (nI i + 1).toNatClampNeg)]) (rest := [.int (v)]) hA hD (c_X12_length (zw l D T B Z g) S 306 _ M1) e2 rfl mv_X12_length rfl hs2 zg_1757 (by decide) hl.1 (Nat.le_of_ble_eq_true rfl) dL_law_565 (fun H locs hD => ?_)
  refine lv_icmp_eq (tgt := 1522) hx hb dL_law_568 (by decide) (fun _ => ?_) (fun h => absurd rfl h)
  exact kk M2 H locs cells slots lsr hI2 ⟨g, hD, by omega, by omega⟩ hl
set_option maxHeartbeats 4000000 in
set_option maxRecDepth 100000 in
theorem zl_appoint {Inv : List (Nat × Nat) → zM → Prop} {l : Launch} {D : va_G} {T : Nat → ClassId} {B : Nat} {Z : State → Prop} {p : Program} {e : Env} {s : State} {m : MethodId} {args : Array Value} {below : List Frame} {meth : Method} {c : Code} {Q : State → Prop} {b Ln i g : Nat} {xs : Nat → Int32} {S : List (Nat × Nat)} {M : zM} {H : Heap} {locs : List Loc} {cells slots : Nat} {lsr : Array Slot} (hP : zP_appoint Inv) (hA : zLA (zw l D T B Z g) RL code 7 p s m args c) (hD : zLD (zw l D T B Z g) s room_1 (S, M) H locs cells slots) (hce : cells ≤ 1000 + i ∧ slots ≤ 20000 + 6 * i) (hX : va_X b Ln xs s s.heap) (hbl : b < s.heap.size) (hbA : ¬ B ≤ b) (hi : i + 6 ≤ Ln) (hLn : Ln ≤ 3072) (hl : lv_has lsr 7 (zll B b i)) (hI : Inv S M) (hsh : zP_shape Inv) (kk : ∀ M' H' locs' cells' slots' lsr', Inv S M' → zlS l D T B Z s S M' H' locs' cells' slots' (i + 6) → lv_has lsr' 7 (zll B b i) → W p l e room_1 s m args below meth c H' locs' cells' slots' Q (F0 m 1522 lsr' [])) : W p l e room_1 s m args below meth c H locs cells slots Q (F0 m 573 lsr []) := by
  obtain ⟨hx, hb, -⟩ := id hA
  obtain ⟨hs1, hs2, -⟩ := hsh S M hI
  obtain ⟨v, M1, M2, e1, e2, hI2⟩ := hP S M hI (xs (nI i + 1).toNatClampNeg)
  refine lv_aload_n hx hb dL_law_573 rfl (lv_at hl 3 rfl) ?_
  refine lv_aload_n hx hb dL_law_574 rfl (lv_at hl 4 rfl) ?_
  refine lv_iload hx hb dL_law_575 (lv_at hl 0 rfl) ?_
  refine lv_iconst (v := 1) hx hb dL_law_577 (by decide) ?_
  refine lv_iadd hx hb dL_law_578 ?_
  refine va_sld hx hb hX hbl hbA hD.2.1 (zl_in (k := 1) (by decide) hi hLn (by decide)) dL_law_579 ?_
  refine zlV (w := zw l D T B Z g) (k := 0) (as := [.int (xs (nI i + 1).toNatClampNeg)]) (rest := []) hA hD (c_X11_appoint (zw l D T B Z g) S 0 _ M) e1 rfl mv_X11_appoint rfl hs1 zg_902 (by decide) hl.1 (Nat.le_of_ble_eq_true rfl) dL_law_580 (fun H locs hD => ?_)
  refine lv_aload_n hx hb dL_law_583 rfl (lv_at hl 2 rfl) ?_
  refine lv_aload_n hx hb dL_law_584 rfl (lv_at hl 4 rfl) ?_
  refine lv_iload hx hb dL_law_585 (lv_at hl 0 rfl) ?_
  refine lv_iconst (v := 1) hx hb dL_law_587 (by decide) ?_
  refine lv_iadd hx hb dL_law_588 ?_
  refine va_sld hx hb hX hbl hbA hD.2.1 (zl_in (k := 1) (by decide) hi hLn (by decide)) dL_law_589 ?_
  refine zlV (w := zw l D T B Z g) (k := 306) (as := [.int (xs (nI i + 1).toNatClampNeg)]) (rest := [.int (v)]) hA hD (c_X12_appoint (zw l D T B Z g) S 306 _ M1) e2 rfl mv_X12_appoint rfl hs2 zg_1771 (by decide) hl.1 (Nat.le_of_ble_eq_true rfl) dL_law_590 (fun H locs hD => ?_)
  refine lv_icmp_eq (tgt := 1522) hx hb dL_law_593 (by decide) (fun _ => ?_) (fun h => absurd rfl h)
  exact kk M2 H locs cells slots lsr hI2 ⟨g, hD, by omega, by omega⟩ hl
set_option maxHeartbeats 4000000 in
set_option maxRecDepth 100000 in
theorem zl_put {Inv : List (Nat × Nat) → zM → Prop} {l : Launch} {D : va_G} {T : Nat → ClassId} {B : Nat} {Z : State → Prop} {p : Program} {e : Env} {s : State} {m : MethodId} {args : Array Value} {below : List Frame} {meth : Method} {c : Code} {Q : State → Prop} {b Ln i g : Nat} {xs : Nat → Int32} {S : List (Nat × Nat)} {M : zM} {H : Heap} {locs : List Loc} {cells slots : Nat} {lsr : Array Slot} (hP : zP_put Inv) (hA : zLA (zw l D T B Z g) RL code 7 p s m args c) (hD : zLD (zw l D T B Z g) s room_1 (S, M) H locs cells slots) (hce : cells ≤ 1000 + i ∧ slots ≤ 20000 + 6 * i) (hX : va_X b Ln xs s s.heap) (hbl : b < s.heap.size) (hbA : ¬ B ≤ b) (hi : i + 6 ≤ Ln) (hLn : Ln ≤ 3072) (hl : lv_has lsr 7 (zll B b i)) (hI : Inv S M) (hsh : zP_shape Inv) (kk : ∀ M' H' locs' cells' slots' lsr', Inv S M' → zlS l D T B Z s S M' H' locs' cells' slots' (i + 6) → lv_has lsr' 7 (zll B b i) → W p l e room_1 s m args below meth c H' locs' cells' slots' Q (F0 m 1522 lsr' [])) : W p l e room_1 s m args below meth c H locs cells slots Q (F0 m 598 lsr []) := by
  obtain ⟨hx, hb, -⟩ := id hA
  obtain ⟨hs1, hs2, -⟩ := hsh S M hI
  obtain ⟨v, M1, M2, e1, e2, hI2⟩ := hP S M hI (xs (nI i + 1).toNatClampNeg) (xs (nI i + 2).toNatClampNeg)
  refine lv_aload_n hx hb dL_law_598 rfl (lv_at hl 3 rfl) ?_
  refine lv_aload_n hx hb dL_law_599 rfl (lv_at hl 4 rfl) ?_
  refine lv_iload hx hb dL_law_600 (lv_at hl 0 rfl) ?_
  refine lv_iconst (v := 1) hx hb dL_law_602 (by decide) ?_
  refine lv_iadd hx hb dL_law_603 ?_
  refine va_sld hx hb hX hbl hbA hD.2.1 (zl_in (k := 1) (by decide) hi hLn (by decide)) dL_law_604 ?_
  refine lv_aload_n hx hb dL_law_605 rfl (lv_at hl 4 rfl) ?_
  refine lv_iload hx hb dL_law_606 (lv_at hl 0 rfl) ?_
  refine lv_iconst (v := 2) hx hb dL_law_608 (by decide) ?_
  refine lv_iadd hx hb dL_law_609 ?_
  refine va_sld hx hb hX hbl hbA hD.2.1 (zl_in (k := 2) (by decide) hi hLn (by decide)) dL_law_610 ?_
  refine zlV (w := zw l D T B Z g) (k := 0) (as := [.int (xs (nI i + 1).toNatClampNeg), .int (xs (nI i + 2).toNatClampNeg)]) (rest := []) hA hD (c_X11_put (zw l D T B Z g) S 0 _ _ M) e1 rfl mv_X11_put rfl hs1 zg_912 (by decide) hl.1 (Nat.le_of_ble_eq_true rfl) dL_law_611 (fun H locs hD => ?_)
  refine lv_aload_n hx hb dL_law_614 rfl (lv_at hl 2 rfl) ?_
  refine lv_aload_n hx hb dL_law_615 rfl (lv_at hl 4 rfl) ?_
  refine lv_iload hx hb dL_law_616 (lv_at hl 0 rfl) ?_
  refine lv_iconst (v := 1) hx hb dL_law_618 (by decide) ?_
  refine lv_iadd hx hb dL_law_619 ?_
  refine va_sld hx hb hX hbl hbA hD.2.1 (zl_in (k := 1) (by decide) hi hLn (by decide)) dL_law_620 ?_
  refine lv_aload_n hx hb dL_law_621 rfl (lv_at hl 4 rfl) ?_
  refine lv_iload hx hb dL_law_622 (lv_at hl 0 rfl) ?_
  refine lv_iconst (v := 2) hx hb dL_law_624 (by decide) ?_
  refine lv_iadd hx hb dL_law_625 ?_
  refine va_sld hx hb hX hbl hbA hD.2.1 (zl_in (k := 2) (by decide) hi hLn (by decide)) dL_law_626 ?_
  refine zlV (w := zw l D T B Z g) (k := 306) (as := [.int (xs (nI i + 1).toNatClampNeg), .int (xs (nI i + 2).toNatClampNeg)]) (rest := [.int (v)]) hA hD (c_X12_put (zw l D T B Z g) S 306 _ _ M1) e2 rfl mv_X12_put rfl hs2 zg_1783 (by decide) hl.1 (Nat.le_of_ble_eq_true rfl) dL_law_627 (fun H locs hD => ?_)
  refine lv_icmp_eq (tgt := 1522) hx hb dL_law_630 (by decide) (fun _ => ?_) (fun h => absurd rfl h)
  exact kk M2 H locs cells slots lsr hI2 ⟨g, hD, by omega, by omega⟩ hl
set_option maxHeartbeats 4000000 in
set_option maxRecDepth 100000 in
theorem zl_swap {Inv : List (Nat × Nat) → zM → Prop} {l : Launch} {D : va_G} {T : Nat → ClassId} {B : Nat} {Z : State → Prop} {p : Program} {e : Env} {s : State} {m : MethodId} {args : Array Value} {below : List Frame} {meth : Method} {c : Code} {Q : State → Prop} {b Ln i g : Nat} {xs : Nat → Int32} {S : List (Nat × Nat)} {M : zM} {H : Heap} {locs : List Loc} {cells slots : Nat} {lsr : Array Slot} (hP : zP_swap Inv) (hA : zLA (zw l D T B Z g) RL code 7 p s m args c) (hD : zLD (zw l D T B Z g) s room_1 (S, M) H locs cells slots) (hce : cells ≤ 1000 + i ∧ slots ≤ 20000 + 6 * i) (hX : va_X b Ln xs s s.heap) (hbl : b < s.heap.size) (hbA : ¬ B ≤ b) (hi : i + 6 ≤ Ln) (hLn : Ln ≤ 3072) (hl : lv_has lsr 7 (zll B b i)) (hI : Inv S M) (hsh : zP_shape Inv) (kk : ∀ M' H' locs' cells' slots' lsr', Inv S M' → zlS l D T B Z s S M' H' locs' cells' slots' (i + 6) → lv_has lsr' 7 (zll B b i) → W p l e room_1 s m args below meth c H' locs' cells' slots' Q (F0 m 1522 lsr' [])) : W p l e room_1 s m args below meth c H locs cells slots Q (F0 m 635 lsr []) := by
  obtain ⟨hx, hb, -⟩ := id hA
  obtain ⟨hs1, hs2, -⟩ := hsh S M hI
  obtain ⟨v, M1, M2, e1, e2, hI2⟩ := hP S M hI (xs (nI i + 1).toNatClampNeg) (xs (nI i + 2).toNatClampNeg)
  refine lv_aload_n hx hb dL_law_635 rfl (lv_at hl 3 rfl) ?_
  refine lv_aload_n hx hb dL_law_636 rfl (lv_at hl 4 rfl) ?_
  refine lv_iload hx hb dL_law_637 (lv_at hl 0 rfl) ?_
  refine lv_iconst (v := 1) hx hb dL_law_639 (by decide) ?_
  refine lv_iadd hx hb dL_law_640 ?_
  refine va_sld hx hb hX hbl hbA hD.2.1 (zl_in (k := 1) (by decide) hi hLn (by decide)) dL_law_641 ?_
  refine lv_aload_n hx hb dL_law_642 rfl (lv_at hl 4 rfl) ?_
  refine lv_iload hx hb dL_law_643 (lv_at hl 0 rfl) ?_
  refine lv_iconst (v := 2) hx hb dL_law_645 (by decide) ?_
  refine lv_iadd hx hb dL_law_646 ?_
  refine va_sld hx hb hX hbl hbA hD.2.1 (zl_in (k := 2) (by decide) hi hLn (by decide)) dL_law_647 ?_
  refine zlV (w := zw l D T B Z g) (k := 0) (as := [.int (xs (nI i + 1).toNatClampNeg), .int (xs (nI i + 2).toNatClampNeg)]) (rest := []) hA hD (c_X11_swap (zw l D T B Z g) S 0 _ _ M) e1 rfl mv_X11_swap rfl hs1 zg_916 (by decide) hl.1 (Nat.le_of_ble_eq_true rfl) dL_law_648 (fun H locs hD => ?_)
  refine lv_aload_n hx hb dL_law_651 rfl (lv_at hl 2 rfl) ?_
  refine lv_aload_n hx hb dL_law_652 rfl (lv_at hl 4 rfl) ?_
  refine lv_iload hx hb dL_law_653 (lv_at hl 0 rfl) ?_
  refine lv_iconst (v := 1) hx hb dL_law_655 (by decide) ?_
  refine lv_iadd hx hb dL_law_656 ?_
  refine va_sld hx hb hX hbl hbA hD.2.1 (zl_in (k := 1) (by decide) hi hLn (by decide)) dL_law_657 ?_
  refine lv_aload_n hx hb dL_law_658 rfl (lv_at hl 4 rfl) ?_
  refine lv_iload hx hb dL_law_659 (lv_at hl 0 rfl) ?_
  refine lv_iconst (v := 2) hx hb dL_law_661 (by decide) ?_
  refine lv_iadd hx hb dL_law_662 ?_
  refine va_sld hx hb hX hbl hbA hD.2.1 (zl_in (k := 2) (by decide) hi hLn (by decide)) dL_law_663 ?_
  refine zlV (w := zw l D T B Z g) (k := 306) (as := [.int (xs (nI i + 1).toNatClampNeg), .int (xs (nI i + 2).toNatClampNeg)]) (rest := [.int (v)]) hA hD (c_X12_swap (zw l D T B Z g) S 306 _ _ M1) e2 rfl mv_X12_swap rfl hs2 zg_1787 (by decide) hl.1 (Nat.le_of_ble_eq_true rfl) dL_law_664 (fun H locs hD => ?_)
  refine lv_icmp_eq (tgt := 1522) hx hb dL_law_667 (by decide) (fun _ => ?_) (fun h => absurd rfl h)
  exact kk M2 H locs cells slots lsr hI2 ⟨g, hD, by omega, by omega⟩ hl
set_option maxHeartbeats 4000000 in
set_option maxRecDepth 100000 in
theorem zl_go {Inv : List (Nat × Nat) → zM → Prop} {l : Launch} {D : va_G} {T : Nat → ClassId} {B : Nat} {Z : State → Prop} {p : Program} {e : Env} {s : State} {m : MethodId} {args : Array Value} {below : List Frame} {meth : Method} {c : Code} {Q : State → Prop} {b Ln i g : Nat} {xs : Nat → Int32} {S : List (Nat × Nat)} {M : zM} {H : Heap} {locs : List Loc} {cells slots : Nat} {lsr : Array Slot} (hP : zP_go Inv) (hA : zLA (zw l D T B Z g) RL code 7 p s m args c) (hD : zLD (zw l D T B Z g) s room_1 (S, M) H locs cells slots) (hce : cells ≤ 1000 + i ∧ slots ≤ 20000 + 6 * i) (hX : va_X b Ln xs s s.heap) (hbl : b < s.heap.size) (hbA : ¬ B ≤ b) (hi : i + 6 ≤ Ln) (hLn : Ln ≤ 3072) (hl : lv_has lsr 7 (zll B b i)) (hI : Inv S M) (hsh : zP_shape Inv) (kk : ∀ M' H' locs' cells' slots' lsr', Inv S M' → zlS l D T B Z s S M' H' locs' cells' slots' (i + 6) → lv_has lsr' 7 (zll B b i) → W p l e room_1 s m args below meth c H' locs' cells' slots' Q (F0 m 1522 lsr' [])) : W p l e room_1 s m args below meth c H locs cells slots Q (F0 m 672 lsr []) := by
  obtain ⟨hx, hb, -⟩ := id hA
  obtain ⟨hs1, hs2, -⟩ := hsh S M hI
  obtain ⟨v, M1, M2, e1, e2, hI2⟩ := hP S M hI (xs (nI i + 1).toNatClampNeg)
  refine lv_aload_n hx hb dL_law_672 rfl (lv_at hl 3 rfl) ?_
  refine lv_aload_n hx hb dL_law_673 rfl (lv_at hl 4 rfl) ?_
  refine lv_iload hx hb dL_law_674 (lv_at hl 0 rfl) ?_
  refine lv_iconst (v := 1) hx hb dL_law_676 (by decide) ?_
  refine lv_iadd hx hb dL_law_677 ?_
  refine va_sld hx hb hX hbl hbA hD.2.1 (zl_in (k := 1) (by decide) hi hLn (by decide)) dL_law_678 ?_
  refine zlV (w := zw l D T B Z g) (k := 0) (as := [.int (xs (nI i + 1).toNatClampNeg)]) (rest := []) hA hD (c_X11_go (zw l D T B Z g) S 0 _ M) e1 rfl mv_X11_go rfl hs1 zg_920 (by decide) hl.1 (Nat.le_of_ble_eq_true rfl) dL_law_679 (fun H locs hD => ?_)
  refine lv_aload_n hx hb dL_law_682 rfl (lv_at hl 2 rfl) ?_
  refine lv_aload_n hx hb dL_law_683 rfl (lv_at hl 4 rfl) ?_
  refine lv_iload hx hb dL_law_684 (lv_at hl 0 rfl) ?_
  refine lv_iconst (v := 1) hx hb dL_law_686 (by decide) ?_
  refine lv_iadd hx hb dL_law_687 ?_
  refine va_sld hx hb hX hbl hbA hD.2.1 (zl_in (k := 1) (by decide) hi hLn (by decide)) dL_law_688 ?_
  refine zlV (w := zw l D T B Z g) (k := 306) (as := [.int (xs (nI i + 1).toNatClampNeg)]) (rest := [.int (v)]) hA hD (c_X12_go (zw l D T B Z g) S 306 _ M1) e2 rfl mv_X12_go rfl hs2 zg_1791 (by decide) hl.1 (Nat.le_of_ble_eq_true rfl) dL_law_689 (fun H locs hD => ?_)
  refine lv_icmp_eq (tgt := 1522) hx hb dL_law_692 (by decide) (fun _ => ?_) (fun h => absurd rfl h)
  exact kk M2 H locs cells slots lsr hI2 ⟨g, hD, by omega, by omega⟩ hl
set_option maxHeartbeats 4000000 in
set_option maxRecDepth 100000 in
theorem zl_ahead {Inv : List (Nat × Nat) → zM → Prop} {l : Launch} {D : va_G} {T : Nat → ClassId} {B : Nat} {Z : State → Prop} {p : Program} {e : Env} {s : State} {m : MethodId} {args : Array Value} {below : List Frame} {meth : Method} {c : Code} {Q : State → Prop} {b Ln i g : Nat} {xs : Nat → Int32} {S : List (Nat × Nat)} {M : zM} {H : Heap} {locs : List Loc} {cells slots : Nat} {lsr : Array Slot} (hP : zP_ahead Inv) (hA : zLA (zw l D T B Z g) RL code 7 p s m args c) (hD : zLD (zw l D T B Z g) s room_1 (S, M) H locs cells slots) (hce : cells ≤ 1000 + i ∧ slots ≤ 20000 + 6 * i) (hX : va_X b Ln xs s s.heap) (hbl : b < s.heap.size) (hbA : ¬ B ≤ b) (hi : i + 6 ≤ Ln) (hLn : Ln ≤ 3072) (hl : lv_has lsr 7 (zll B b i)) (hI : Inv S M) (hsh : zP_shape Inv) (kk : ∀ M' H' locs' cells' slots' lsr', Inv S M' → zlS l D T B Z s S M' H' locs' cells' slots' (i + 6) → lv_has lsr' 7 (zll B b i) → W p l e room_1 s m args below meth c H' locs' cells' slots' Q (F0 m 1522 lsr' [])) : W p l e room_1 s m args below meth c H locs cells slots Q (F0 m 697 lsr []) := by
  obtain ⟨hx, hb, -⟩ := id hA
  obtain ⟨hs1, hs2, -⟩ := hsh S M hI
  obtain ⟨v, M1, M2, e1, e2, hI2⟩ := hP S M hI (xs (nI i + 1).toNatClampNeg) (xs (nI i + 2).toNatClampNeg) (xs (nI i + 3).toNatClampNeg)
  refine lv_aload_n hx hb dL_law_697 rfl (lv_at hl 3 rfl) ?_
  refine lv_aload_n hx hb dL_law_698 rfl (lv_at hl 4 rfl) ?_
  refine lv_iload hx hb dL_law_699 (lv_at hl 0 rfl) ?_
  refine lv_iconst (v := 1) hx hb dL_law_701 (by decide) ?_
  refine lv_iadd hx hb dL_law_702 ?_
  refine va_sld hx hb hX hbl hbA hD.2.1 (zl_in (k := 1) (by decide) hi hLn (by decide)) dL_law_703 ?_
  refine lv_aload_n hx hb dL_law_704 rfl (lv_at hl 4 rfl) ?_
  refine lv_iload hx hb dL_law_705 (lv_at hl 0 rfl) ?_
  refine lv_iconst (v := 2) hx hb dL_law_707 (by decide) ?_
  refine lv_iadd hx hb dL_law_708 ?_
  refine va_sld hx hb hX hbl hbA hD.2.1 (zl_in (k := 2) (by decide) hi hLn (by decide)) dL_law_709 ?_
  refine lv_aload_n hx hb dL_law_710 rfl (lv_at hl 4 rfl) ?_
  refine lv_iload hx hb dL_law_711 (lv_at hl 0 rfl) ?_
  refine lv_iconst (v := 3) hx hb dL_law_713 (by decide) ?_
  refine lv_iadd hx hb dL_law_714 ?_
  refine va_sld hx hb hX hbl hbA hD.2.1 (zl_in (k := 3) (by decide) hi hLn (by decide)) dL_law_715 ?_
  refine zlV (w := zw l D T B Z g) (k := 0) (as := [.int (xs (nI i + 1).toNatClampNeg), .int (xs (nI i + 2).toNatClampNeg), .int (xs (nI i + 3).toNatClampNeg)]) (rest := []) hA hD (c_X11_ahead (zw l D T B Z g) S 0 _ _ _ M) e1 rfl mv_X11_ahead rfl hs1 zg_968 (by decide) hl.1 (Nat.le_of_ble_eq_true rfl) dL_law_716 (fun H locs hD => ?_)
  refine lv_aload_n hx hb dL_law_719 rfl (lv_at hl 2 rfl) ?_
  refine lv_aload_n hx hb dL_law_720 rfl (lv_at hl 4 rfl) ?_
  refine lv_iload hx hb dL_law_721 (lv_at hl 0 rfl) ?_
  refine lv_iconst (v := 1) hx hb dL_law_723 (by decide) ?_
  refine lv_iadd hx hb dL_law_724 ?_
  refine va_sld hx hb hX hbl hbA hD.2.1 (zl_in (k := 1) (by decide) hi hLn (by decide)) dL_law_725 ?_
  refine lv_aload_n hx hb dL_law_726 rfl (lv_at hl 4 rfl) ?_
  refine lv_iload hx hb dL_law_727 (lv_at hl 0 rfl) ?_
  refine lv_iconst (v := 2) hx hb dL_law_729 (by decide) ?_
  refine lv_iadd hx hb dL_law_730 ?_
  refine va_sld hx hb hX hbl hbA hD.2.1 (zl_in (k := 2) (by decide) hi hLn (by decide)) dL_law_731 ?_
  refine lv_aload_n hx hb dL_law_732 rfl (lv_at hl 4 rfl) ?_
  refine lv_iload hx hb dL_law_733 (lv_at hl 0 rfl) ?_
  refine lv_iconst (v := 3) hx hb dL_law_735 (by decide) ?_
  refine lv_iadd hx hb dL_law_736 ?_
  refine va_sld hx hb hX hbl hbA hD.2.1 (zl_in (k := 3) (by decide) hi hLn (by decide)) dL_law_737 ?_
  refine zlV (w := zw l D T B Z g) (k := 306) (as := [.int (xs (nI i + 1).toNatClampNeg), .int (xs (nI i + 2).toNatClampNeg), .int (xs (nI i + 3).toNatClampNeg)]) (rest := [.int (v)]) hA hD (c_X12_ahead (zw l D T B Z g) S 306 _ _ _ M1) e2 rfl mv_X12_ahead rfl hs2 zg_1823 (by decide) hl.1 (Nat.le_of_ble_eq_true rfl) dL_law_738 (fun H locs hD => ?_)
  refine lv_icmp_eq (tgt := 1522) hx hb dL_law_741 (by decide) (fun _ => ?_) (fun h => absurd rfl h)
  exact kk M2 H locs cells slots lsr hI2 ⟨g, hD, by omega, by omega⟩ hl
set_option maxHeartbeats 4000000 in
set_option maxRecDepth 100000 in
theorem zl_opener {Inv : List (Nat × Nat) → zM → Prop} {l : Launch} {D : va_G} {T : Nat → ClassId} {B : Nat} {Z : State → Prop} {p : Program} {e : Env} {s : State} {m : MethodId} {args : Array Value} {below : List Frame} {meth : Method} {c : Code} {Q : State → Prop} {b Ln i g : Nat} {xs : Nat → Int32} {S : List (Nat × Nat)} {M : zM} {H : Heap} {locs : List Loc} {cells slots : Nat} {lsr : Array Slot} (hP : zP_opener Inv) (hA : zLA (zw l D T B Z g) RL code 7 p s m args c) (hD : zLD (zw l D T B Z g) s room_1 (S, M) H locs cells slots) (hce : cells ≤ 1000 + i ∧ slots ≤ 20000 + 6 * i) (hX : va_X b Ln xs s s.heap) (hbl : b < s.heap.size) (hbA : ¬ B ≤ b) (hi : i + 6 ≤ Ln) (hLn : Ln ≤ 3072) (hl : lv_has lsr 7 (zll B b i)) (hI : Inv S M) (hsh : zP_shape Inv) (kk : ∀ M' H' locs' cells' slots' lsr', Inv S M' → zlS l D T B Z s S M' H' locs' cells' slots' (i + 6) → lv_has lsr' 7 (zll B b i) → W p l e room_1 s m args below meth c H' locs' cells' slots' Q (F0 m 1522 lsr' [])) : W p l e room_1 s m args below meth c H locs cells slots Q (F0 m 746 lsr []) := by
  obtain ⟨hx, hb, -⟩ := id hA
  obtain ⟨hs1, hs2, -⟩ := hsh S M hI
  obtain ⟨v, M1, M2, e1, e2, hI2⟩ := hP S M hI (xs (nI i + 1).toNatClampNeg)
  refine lv_aload_n hx hb dL_law_746 rfl (lv_at hl 3 rfl) ?_
  refine lv_aload_n hx hb dL_law_747 rfl (lv_at hl 4 rfl) ?_
  refine lv_iload hx hb dL_law_748 (lv_at hl 0 rfl) ?_
  refine lv_iconst (v := 1) hx hb dL_law_750 (by decide) ?_
  refine lv_iadd hx hb dL_law_751 ?_
  refine va_sld hx hb hX hbl hbA hD.2.1 (zl_in (k := 1) (by decide) hi hLn (by decide)) dL_law_752 ?_
  refine zlV (w := zw l D T B Z g) (k := 0) (as := [.int (xs (nI i + 1).toNatClampNeg)]) (rest := []) hA hD (c_X11_opener (zw l D T B Z g) S 0 _ M) e1 rfl mv_X11_opener rfl hs1 zg_981 (by decide) hl.1 (Nat.le_of_ble_eq_true rfl) dL_law_753 (fun H locs hD => ?_)
  refine lv_aload_n hx hb dL_law_756 rfl (lv_at hl 2 rfl) ?_
  refine lv_aload_n hx hb dL_law_757 rfl (lv_at hl 4 rfl) ?_
  refine lv_iload hx hb dL_law_758 (lv_at hl 0 rfl) ?_
  refine lv_iconst (v := 1) hx hb dL_law_760 (by decide) ?_
  refine lv_iadd hx hb dL_law_761 ?_
  refine va_sld hx hb hX hbl hbA hD.2.1 (zl_in (k := 1) (by decide) hi hLn (by decide)) dL_law_762 ?_
  refine zlV (w := zw l D T B Z g) (k := 306) (as := [.int (xs (nI i + 1).toNatClampNeg)]) (rest := [.int (v)]) hA hD (c_X12_opener (zw l D T B Z g) S 306 _ M1) e2 rfl mv_X12_opener rfl hs2 zg_1834 (by decide) hl.1 (Nat.le_of_ble_eq_true rfl) dL_law_763 (fun H locs hD => ?_)
  refine lv_icmp_eq (tgt := 1522) hx hb dL_law_766 (by decide) (fun _ => ?_) (fun h => absurd rfl h)
  exact kk M2 H locs cells slots lsr hI2 ⟨g, hD, by omega, by omega⟩ hl
set_option maxHeartbeats 4000000 in
set_option maxRecDepth 100000 in
theorem zl_longAt {Inv : List (Nat × Nat) → zM → Prop} {l : Launch} {D : va_G} {T : Nat → ClassId} {B : Nat} {Z : State → Prop} {p : Program} {e : Env} {s : State} {m : MethodId} {args : Array Value} {below : List Frame} {meth : Method} {c : Code} {Q : State → Prop} {b Ln i g : Nat} {xs : Nat → Int32} {S : List (Nat × Nat)} {M : zM} {H : Heap} {locs : List Loc} {cells slots : Nat} {lsr : Array Slot} (hP : zP_longAt Inv) (hA : zLA (zw l D T B Z g) RL code 7 p s m args c) (hD : zLD (zw l D T B Z g) s room_1 (S, M) H locs cells slots) (hce : cells ≤ 1000 + i ∧ slots ≤ 20000 + 6 * i) (hX : va_X b Ln xs s s.heap) (hbl : b < s.heap.size) (hbA : ¬ B ≤ b) (hi : i + 6 ≤ Ln) (hLn : Ln ≤ 3072) (hl : lv_has lsr 7 (zll B b i)) (hI : Inv S M) (hsh : zP_shape Inv) (kk : ∀ M' H' locs' cells' slots' lsr', Inv S M' → zlS l D T B Z s S M' H' locs' cells' slots' (i + 6) → lv_has lsr' 7 (zll B b i) → W p l e room_1 s m args below meth c H' locs' cells' slots' Q (F0 m 1522 lsr' [])) : W p l e room_1 s m args below meth c H locs cells slots Q (F0 m 771 lsr []) := by
  obtain ⟨hx, hb, -⟩ := id hA
  obtain ⟨hs1, hs2, -⟩ := hsh S M hI
  obtain ⟨v, M1, M2, e1, e2, hI2⟩ := hP S M hI (xs (nI i + 1).toNatClampNeg)
  refine lv_aload_n hx hb dL_law_771 rfl (lv_at hl 3 rfl) ?_
  refine lv_aload_n hx hb dL_law_772 rfl (lv_at hl 4 rfl) ?_
  refine lv_iload hx hb dL_law_773 (lv_at hl 0 rfl) ?_
  refine lv_iconst (v := 1) hx hb dL_law_775 (by decide) ?_
  refine lv_iadd hx hb dL_law_776 ?_
  refine va_sld hx hb hX hbl hbA hD.2.1 (zl_in (k := 1) (by decide) hi hLn (by decide)) dL_law_777 ?_
  refine zlV (w := zw l D T B Z g) (k := 0) (as := [.int (xs (nI i + 1).toNatClampNeg)]) (rest := []) hA hD (c_X11_longAt (zw l D T B Z g) S 0 _ M) e1 rfl mv_X11_longAt rfl hs1 zg_985 (by decide) hl.1 (Nat.le_of_ble_eq_true rfl) dL_law_778 (fun H locs hD => ?_)
  refine lv_aload_n hx hb dL_law_781 rfl (lv_at hl 2 rfl) ?_
  refine lv_aload_n hx hb dL_law_782 rfl (lv_at hl 4 rfl) ?_
  refine lv_iload hx hb dL_law_783 (lv_at hl 0 rfl) ?_
  refine lv_iconst (v := 1) hx hb dL_law_785 (by decide) ?_
  refine lv_iadd hx hb dL_law_786 ?_
  refine va_sld hx hb hX hbl hbA hD.2.1 (zl_in (k := 1) (by decide) hi hLn (by decide)) dL_law_787 ?_
  refine zlV (w := zw l D T B Z g) (k := 306) (as := [.int (xs (nI i + 1).toNatClampNeg)]) (rest := [.int (v)]) hA hD (c_X12_longAt (zw l D T B Z g) S 306 _ M1) e2 rfl mv_X12_longAt rfl hs2 zg_1842 (by decide) hl.1 (Nat.le_of_ble_eq_true rfl) dL_law_788 (fun H locs hD => ?_)
  refine lv_icmp_eq (tgt := 1522) hx hb dL_law_791 (by decide) (fun _ => ?_) (fun h => absurd rfl h)
  exact kk M2 H locs cells slots lsr hI2 ⟨g, hD, by omega, by omega⟩ hl
set_option maxHeartbeats 4000000 in
set_option maxRecDepth 100000 in
theorem zl_doneWhen {Inv : List (Nat × Nat) → zM → Prop} {l : Launch} {D : va_G} {T : Nat → ClassId} {B : Nat} {Z : State → Prop} {p : Program} {e : Env} {s : State} {m : MethodId} {args : Array Value} {below : List Frame} {meth : Method} {c : Code} {Q : State → Prop} {b Ln i g : Nat} {xs : Nat → Int32} {S : List (Nat × Nat)} {M : zM} {H : Heap} {locs : List Loc} {cells slots : Nat} {lsr : Array Slot} (hP : zP_doneWhen Inv) (hA : zLA (zw l D T B Z g) RL code 7 p s m args c) (hD : zLD (zw l D T B Z g) s room_1 (S, M) H locs cells slots) (hce : cells ≤ 1000 + i ∧ slots ≤ 20000 + 6 * i) (hX : va_X b Ln xs s s.heap) (hbl : b < s.heap.size) (hbA : ¬ B ≤ b) (hi : i + 6 ≤ Ln) (hLn : Ln ≤ 3072) (hl : lv_has lsr 7 (zll B b i)) (hI : Inv S M) (hsh : zP_shape Inv) (kk : ∀ M' H' locs' cells' slots' lsr', Inv S M' → zlS l D T B Z s S M' H' locs' cells' slots' (i + 6) → lv_has lsr' 7 (zll B b i) → W p l e room_1 s m args below meth c H' locs' cells' slots' Q (F0 m 1522 lsr' [])) : W p l e room_1 s m args below meth c H locs cells slots Q (F0 m 796 lsr []) := by
  obtain ⟨hx, hb, -⟩ := id hA
  obtain ⟨hs1, hs2, -⟩ := hsh S M hI
  obtain ⟨v, M1, M2, e1, e2, hI2⟩ := hP S M hI (xs (nI i + 1).toNatClampNeg)
  refine lv_aload_n hx hb dL_law_796 rfl (lv_at hl 3 rfl) ?_
  refine lv_aload_n hx hb dL_law_797 rfl (lv_at hl 4 rfl) ?_
  refine lv_iload hx hb dL_law_798 (lv_at hl 0 rfl) ?_
  refine lv_iconst (v := 1) hx hb dL_law_800 (by decide) ?_
  refine lv_iadd hx hb dL_law_801 ?_
  refine va_sld hx hb hX hbl hbA hD.2.1 (zl_in (k := 1) (by decide) hi hLn (by decide)) dL_law_802 ?_
  refine zlV (w := zw l D T B Z g) (k := 0) (as := [.int (xs (nI i + 1).toNatClampNeg)]) (rest := []) hA hD (c_X11_doneWhen (zw l D T B Z g) S 0 _ M) e1 rfl mv_X11_doneWhen rfl hs1 zg_989 (by decide) hl.1 (Nat.le_of_ble_eq_true rfl) dL_law_803 (fun H locs hD => ?_)
  refine lv_aload_n hx hb dL_law_806 rfl (lv_at hl 2 rfl) ?_
  refine lv_aload_n hx hb dL_law_807 rfl (lv_at hl 4 rfl) ?_
  refine lv_iload hx hb dL_law_808 (lv_at hl 0 rfl) ?_
  refine lv_iconst (v := 1) hx hb dL_law_810 (by decide) ?_
  refine lv_iadd hx hb dL_law_811 ?_
  refine va_sld hx hb hX hbl hbA hD.2.1 (zl_in (k := 1) (by decide) hi hLn (by decide)) dL_law_812 ?_
  refine zlV (w := zw l D T B Z g) (k := 306) (as := [.int (xs (nI i + 1).toNatClampNeg)]) (rest := [.int (v)]) hA hD (c_X12_doneWhen (zw l D T B Z g) S 306 _ M1) e2 rfl mv_X12_doneWhen rfl hs2 zg_1846 (by decide) hl.1 (Nat.le_of_ble_eq_true rfl) dL_law_813 (fun H locs hD => ?_)
  refine lv_icmp_eq (tgt := 1522) hx hb dL_law_816 (by decide) (fun _ => ?_) (fun h => absurd rfl h)
  exact kk M2 H locs cells slots lsr hI2 ⟨g, hD, by omega, by omega⟩ hl
set_option maxHeartbeats 4000000 in
set_option maxRecDepth 100000 in
theorem zl_soon {Inv : List (Nat × Nat) → zM → Prop} {l : Launch} {D : va_G} {T : Nat → ClassId} {B : Nat} {Z : State → Prop} {p : Program} {e : Env} {s : State} {m : MethodId} {args : Array Value} {below : List Frame} {meth : Method} {c : Code} {Q : State → Prop} {b Ln i g : Nat} {xs : Nat → Int32} {S : List (Nat × Nat)} {M : zM} {H : Heap} {locs : List Loc} {cells slots : Nat} {lsr : Array Slot} (hP : zP_soon Inv) (hA : zLA (zw l D T B Z g) RL code 7 p s m args c) (hD : zLD (zw l D T B Z g) s room_1 (S, M) H locs cells slots) (hce : cells ≤ 1000 + i ∧ slots ≤ 20000 + 6 * i) (hX : va_X b Ln xs s s.heap) (hbl : b < s.heap.size) (hbA : ¬ B ≤ b) (hi : i + 6 ≤ Ln) (hLn : Ln ≤ 3072) (hl : lv_has lsr 7 (zll B b i)) (hI : Inv S M) (hsh : zP_shape Inv) (kk : ∀ M' H' locs' cells' slots' lsr', Inv S M' → zlS l D T B Z s S M' H' locs' cells' slots' (i + 6) → lv_has lsr' 7 (zll B b i) → W p l e room_1 s m args below meth c H' locs' cells' slots' Q (F0 m 1522 lsr' [])) : W p l e room_1 s m args below meth c H locs cells slots Q (F0 m 821 lsr []) := by
  obtain ⟨hx, hb, -⟩ := id hA
  obtain ⟨hs1, hs2, -⟩ := hsh S M hI
  obtain ⟨v, M1, M2, e1, e2, hI2⟩ := hP S M hI (xs (nI i + 1).toNatClampNeg)
  refine lv_aload_n hx hb dL_law_821 rfl (lv_at hl 3 rfl) ?_
  refine lv_aload_n hx hb dL_law_822 rfl (lv_at hl 4 rfl) ?_
  refine lv_iload hx hb dL_law_823 (lv_at hl 0 rfl) ?_
  refine lv_iconst (v := 1) hx hb dL_law_825 (by decide) ?_
  refine lv_iadd hx hb dL_law_826 ?_
  refine va_sld hx hb hX hbl hbA hD.2.1 (zl_in (k := 1) (by decide) hi hLn (by decide)) dL_law_827 ?_
  refine zlV (w := zw l D T B Z g) (k := 0) (as := [.int (xs (nI i + 1).toNatClampNeg)]) (rest := []) hA hD (c_X11_soon (zw l D T B Z g) S 0 _ M) e1 rfl mv_X11_soon rfl hs1 zg_993 (by decide) hl.1 (Nat.le_of_ble_eq_true rfl) dL_law_828 (fun H locs hD => ?_)
  refine lv_aload_n hx hb dL_law_831 rfl (lv_at hl 2 rfl) ?_
  refine lv_aload_n hx hb dL_law_832 rfl (lv_at hl 4 rfl) ?_
  refine lv_iload hx hb dL_law_833 (lv_at hl 0 rfl) ?_
  refine lv_iconst (v := 1) hx hb dL_law_835 (by decide) ?_
  refine lv_iadd hx hb dL_law_836 ?_
  refine va_sld hx hb hX hbl hbA hD.2.1 (zl_in (k := 1) (by decide) hi hLn (by decide)) dL_law_837 ?_
  refine zlV (w := zw l D T B Z g) (k := 306) (as := [.int (xs (nI i + 1).toNatClampNeg)]) (rest := [.int (v)]) hA hD (c_X12_soon (zw l D T B Z g) S 306 _ M1) e2 rfl mv_X12_soon rfl hs2 zg_1850 (by decide) hl.1 (Nat.le_of_ble_eq_true rfl) dL_law_838 (fun H locs hD => ?_)
  refine lv_icmp_eq (tgt := 1522) hx hb dL_law_841 (by decide) (fun _ => ?_) (fun h => absurd rfl h)
  exact kk M2 H locs cells slots lsr hI2 ⟨g, hD, by omega, by omega⟩ hl
set_option maxHeartbeats 4000000 in
set_option maxRecDepth 100000 in
theorem zl_out {Inv : List (Nat × Nat) → zM → Prop} {l : Launch} {D : va_G} {T : Nat → ClassId} {B : Nat} {Z : State → Prop} {p : Program} {e : Env} {s : State} {m : MethodId} {args : Array Value} {below : List Frame} {meth : Method} {c : Code} {Q : State → Prop} {b Ln i g : Nat} {xs : Nat → Int32} {S : List (Nat × Nat)} {M : zM} {H : Heap} {locs : List Loc} {cells slots : Nat} {lsr : Array Slot} (hP : zP_out Inv) (hA : zLA (zw l D T B Z g) RL code 7 p s m args c) (hD : zLD (zw l D T B Z g) s room_1 (S, M) H locs cells slots) (hce : cells ≤ 1000 + i ∧ slots ≤ 20000 + 6 * i) (hX : va_X b Ln xs s s.heap) (hbl : b < s.heap.size) (hbA : ¬ B ≤ b) (hi : i + 6 ≤ Ln) (hLn : Ln ≤ 3072) (hl : lv_has lsr 7 (zll B b i)) (hI : Inv S M) (hsh : zP_shape Inv) (kk : ∀ M' H' locs' cells' slots' lsr', Inv S M' → zlS l D T B Z s S M' H' locs' cells' slots' (i + 6) → lv_has lsr' 7 (zll B b i) → W p l e room_1 s m args below meth c H' locs' cells' slots' Q (F0 m 1522 lsr' [])) : W p l e room_1 s m args below meth c H locs cells slots Q (F0 m 846 lsr []) := by
  obtain ⟨hx, hb, -⟩ := id hA
  obtain ⟨hs1, hs2, -⟩ := hsh S M hI
  obtain ⟨v, M1, M2, e1, e2, hI2⟩ := hP S M hI (xs (nI i + 1).toNatClampNeg)
  refine lv_aload_n hx hb dL_law_846 rfl (lv_at hl 3 rfl) ?_
  refine lv_aload_n hx hb dL_law_847 rfl (lv_at hl 4 rfl) ?_
  refine lv_iload hx hb dL_law_848 (lv_at hl 0 rfl) ?_
  refine lv_iconst (v := 1) hx hb dL_law_850 (by decide) ?_
  refine lv_iadd hx hb dL_law_851 ?_
  refine va_sld hx hb hX hbl hbA hD.2.1 (zl_in (k := 1) (by decide) hi hLn (by decide)) dL_law_852 ?_
  refine zlV (w := zw l D T B Z g) (k := 0) (as := [.int (xs (nI i + 1).toNatClampNeg)]) (rest := []) hA hD (c_X11_out (zw l D T B Z g) S 0 _ M) e1 rfl mv_X11_out rfl hs1 zg_997 (by decide) hl.1 (Nat.le_of_ble_eq_true rfl) dL_law_853 (fun H locs hD => ?_)
  refine lv_aload_n hx hb dL_law_856 rfl (lv_at hl 2 rfl) ?_
  refine lv_aload_n hx hb dL_law_857 rfl (lv_at hl 4 rfl) ?_
  refine lv_iload hx hb dL_law_858 (lv_at hl 0 rfl) ?_
  refine lv_iconst (v := 1) hx hb dL_law_860 (by decide) ?_
  refine lv_iadd hx hb dL_law_861 ?_
  refine va_sld hx hb hX hbl hbA hD.2.1 (zl_in (k := 1) (by decide) hi hLn (by decide)) dL_law_862 ?_
  refine zlV (w := zw l D T B Z g) (k := 306) (as := [.int (xs (nI i + 1).toNatClampNeg)]) (rest := [.int (v)]) hA hD (c_X12_out (zw l D T B Z g) S 306 _ M1) e2 rfl mv_X12_out rfl hs2 zg_1854 (by decide) hl.1 (Nat.le_of_ble_eq_true rfl) dL_law_863 (fun H locs hD => ?_)
  refine lv_icmp_eq (tgt := 1522) hx hb dL_law_866 (by decide) (fun _ => ?_) (fun h => absurd rfl h)
  exact kk M2 H locs cells slots lsr hI2 ⟨g, hD, by omega, by omega⟩ hl
set_option maxHeartbeats 4000000 in
set_option maxRecDepth 100000 in
theorem zl_missing {Inv : List (Nat × Nat) → zM → Prop} {l : Launch} {D : va_G} {T : Nat → ClassId} {B : Nat} {Z : State → Prop} {p : Program} {e : Env} {s : State} {m : MethodId} {args : Array Value} {below : List Frame} {meth : Method} {c : Code} {Q : State → Prop} {b Ln i g : Nat} {xs : Nat → Int32} {S : List (Nat × Nat)} {M : zM} {H : Heap} {locs : List Loc} {cells slots : Nat} {lsr : Array Slot} (hP : zP_missing Inv) (hA : zLA (zw l D T B Z g) RL code 7 p s m args c) (hD : zLD (zw l D T B Z g) s room_1 (S, M) H locs cells slots) (hce : cells ≤ 1000 + i ∧ slots ≤ 20000 + 6 * i) (hX : va_X b Ln xs s s.heap) (hbl : b < s.heap.size) (hbA : ¬ B ≤ b) (hi : i + 6 ≤ Ln) (hLn : Ln ≤ 3072) (hl : lv_has lsr 7 (zll B b i)) (hI : Inv S M) (hsh : zP_shape Inv) (kk : ∀ M' H' locs' cells' slots' lsr', Inv S M' → zlS l D T B Z s S M' H' locs' cells' slots' (i + 6) → lv_has lsr' 7 (zll B b i) → W p l e room_1 s m args below meth c H' locs' cells' slots' Q (F0 m 1522 lsr' [])) : W p l e room_1 s m args below meth c H locs cells slots Q (F0 m 871 lsr []) := by
  obtain ⟨hx, hb, -⟩ := id hA
  obtain ⟨hs1, hs2, -⟩ := hsh S M hI
  obtain ⟨v, M1, M2, e1, e2, hI2⟩ := hP S M hI (xs (nI i + 1).toNatClampNeg)
  refine lv_aload_n hx hb dL_law_871 rfl (lv_at hl 3 rfl) ?_
  refine lv_aload_n hx hb dL_law_872 rfl (lv_at hl 4 rfl) ?_
  refine lv_iload hx hb dL_law_873 (lv_at hl 0 rfl) ?_
  refine lv_iconst (v := 1) hx hb dL_law_875 (by decide) ?_
  refine lv_iadd hx hb dL_law_876 ?_
  refine va_sld hx hb hX hbl hbA hD.2.1 (zl_in (k := 1) (by decide) hi hLn (by decide)) dL_law_877 ?_
  refine zlV (w := zw l D T B Z g) (k := 0) (as := [.int (xs (nI i + 1).toNatClampNeg)]) (rest := []) hA hD (c_X11_missing (zw l D T B Z g) S 0 _ M) e1 rfl mv_X11_missing rfl hs1 zg_1002 (by decide) hl.1 (Nat.le_of_ble_eq_true rfl) dL_law_878 (fun H locs hD => ?_)
  refine lv_aload_n hx hb dL_law_881 rfl (lv_at hl 2 rfl) ?_
  refine lv_aload_n hx hb dL_law_882 rfl (lv_at hl 4 rfl) ?_
  refine lv_iload hx hb dL_law_883 (lv_at hl 0 rfl) ?_
  refine lv_iconst (v := 1) hx hb dL_law_885 (by decide) ?_
  refine lv_iadd hx hb dL_law_886 ?_
  refine va_sld hx hb hX hbl hbA hD.2.1 (zl_in (k := 1) (by decide) hi hLn (by decide)) dL_law_887 ?_
  refine zlV (w := zw l D T B Z g) (k := 306) (as := [.int (xs (nI i + 1).toNatClampNeg)]) (rest := [.int (v)]) hA hD (c_X12_missing (zw l D T B Z g) S 306 _ M1) e2 rfl mv_X12_missing rfl hs2 zg_1858 (by decide) hl.1 (Nat.le_of_ble_eq_true rfl) dL_law_888 (fun H locs hD => ?_)
  refine lv_icmp_eq (tgt := 1522) hx hb dL_law_891 (by decide) (fun _ => ?_) (fun h => absurd rfl h)
  exact kk M2 H locs cells slots lsr hI2 ⟨g, hD, by omega, by omega⟩ hl
set_option maxHeartbeats 4000000 in
set_option maxRecDepth 100000 in
theorem zl_plan {Inv : List (Nat × Nat) → zM → Prop} {l : Launch} {D : va_G} {T : Nat → ClassId} {B : Nat} {Z : State → Prop} {p : Program} {e : Env} {s : State} {m : MethodId} {args : Array Value} {below : List Frame} {meth : Method} {c : Code} {Q : State → Prop} {b Ln i g : Nat} {xs : Nat → Int32} {S : List (Nat × Nat)} {M : zM} {H : Heap} {locs : List Loc} {cells slots : Nat} {lsr : Array Slot} (hP : zP_plan Inv) (hA : zLA (zw l D T B Z g) RL code 7 p s m args c) (hD : zLD (zw l D T B Z g) s room_1 (S, M) H locs cells slots) (hce : cells ≤ 1000 + i ∧ slots ≤ 20000 + 6 * i) (hX : va_X b Ln xs s s.heap) (hbl : b < s.heap.size) (hbA : ¬ B ≤ b) (hi : i + 6 ≤ Ln) (hLn : Ln ≤ 3072) (hl : lv_has lsr 7 (zll B b i)) (hI : Inv S M) (hsh : zP_shape Inv) (kk : ∀ M' H' locs' cells' slots' lsr', Inv S M' → zlS l D T B Z s S M' H' locs' cells' slots' (i + 6) → lv_has lsr' 7 (zll B b i) → W p l e room_1 s m args below meth c H' locs' cells' slots' Q (F0 m 1522 lsr' [])) : W p l e room_1 s m args below meth c H locs cells slots Q (F0 m 896 lsr []) := by
  obtain ⟨hx, hb, -⟩ := id hA
  obtain ⟨hs1, hs2, -⟩ := hsh S M hI
  obtain ⟨v, M1, M2, e1, e2, hI2⟩ := hP S M hI (xs (nI i + 1).toNatClampNeg)
  refine lv_aload_n hx hb dL_law_896 rfl (lv_at hl 3 rfl) ?_
  refine lv_aload_n hx hb dL_law_897 rfl (lv_at hl 4 rfl) ?_
  refine lv_iload hx hb dL_law_898 (lv_at hl 0 rfl) ?_
  refine lv_iconst (v := 1) hx hb dL_law_900 (by decide) ?_
  refine lv_iadd hx hb dL_law_901 ?_
  refine va_sld hx hb hX hbl hbA hD.2.1 (zl_in (k := 1) (by decide) hi hLn (by decide)) dL_law_902 ?_
  refine zlV (w := zw l D T B Z g) (k := 0) (as := [.int (xs (nI i + 1).toNatClampNeg)]) (rest := []) hA hD (c_X11_plan (zw l D T B Z g) S 0 _ M) e1 rfl mv_X11_plan rfl hs1 zg_1006 (by decide) hl.1 (Nat.le_of_ble_eq_true rfl) dL_law_903 (fun H locs hD => ?_)
  refine lv_aload_n hx hb dL_law_906 rfl (lv_at hl 2 rfl) ?_
  refine lv_aload_n hx hb dL_law_907 rfl (lv_at hl 4 rfl) ?_
  refine lv_iload hx hb dL_law_908 (lv_at hl 0 rfl) ?_
  refine lv_iconst (v := 1) hx hb dL_law_910 (by decide) ?_
  refine lv_iadd hx hb dL_law_911 ?_
  refine va_sld hx hb hX hbl hbA hD.2.1 (zl_in (k := 1) (by decide) hi hLn (by decide)) dL_law_912 ?_
  refine zlV (w := zw l D T B Z g) (k := 306) (as := [.int (xs (nI i + 1).toNatClampNeg)]) (rest := [.int (v)]) hA hD (c_X12_plan (zw l D T B Z g) S 306 _ M1) e2 rfl mv_X12_plan rfl hs2 zg_1862 (by decide) hl.1 (Nat.le_of_ble_eq_true rfl) dL_law_913 (fun H locs hD => ?_)
  refine lv_icmp_eq (tgt := 1522) hx hb dL_law_916 (by decide) (fun _ => ?_) (fun h => absurd rfl h)
  exact kk M2 H locs cells slots lsr hI2 ⟨g, hD, by omega, by omega⟩ hl
set_option maxHeartbeats 4000000 in
set_option maxRecDepth 100000 in
theorem zl_best {Inv : List (Nat × Nat) → zM → Prop} {l : Launch} {D : va_G} {T : Nat → ClassId} {B : Nat} {Z : State → Prop} {p : Program} {e : Env} {s : State} {m : MethodId} {args : Array Value} {below : List Frame} {meth : Method} {c : Code} {Q : State → Prop} {b Ln i g : Nat} {xs : Nat → Int32} {S : List (Nat × Nat)} {M : zM} {H : Heap} {locs : List Loc} {cells slots : Nat} {lsr : Array Slot} (hP : zP_best Inv) (hA : zLA (zw l D T B Z g) RL code 7 p s m args c) (hD : zLD (zw l D T B Z g) s room_1 (S, M) H locs cells slots) (hce : cells ≤ 1000 + i ∧ slots ≤ 20000 + 6 * i) (hX : va_X b Ln xs s s.heap) (hbl : b < s.heap.size) (hbA : ¬ B ≤ b) (hi : i + 6 ≤ Ln) (hLn : Ln ≤ 3072) (hl : lv_has lsr 7 (zll B b i)) (hI : Inv S M) (hsh : zP_shape Inv) (kk : ∀ M' H' locs' cells' slots' lsr', Inv S M' → zlS l D T B Z s S M' H' locs' cells' slots' (i + 6) → lv_has lsr' 7 (zll B b i) → W p l e room_1 s m args below meth c H' locs' cells' slots' Q (F0 m 1522 lsr' [])) : W p l e room_1 s m args below meth c H locs cells slots Q (F0 m 921 lsr []) := by
  obtain ⟨hx, hb, -⟩ := id hA
  obtain ⟨hs1, hs2, -⟩ := hsh S M hI
  obtain ⟨v, M1, M2, e1, e2, hI2⟩ := hP S M hI (xs (nI i + 1).toNatClampNeg) (xs (nI i + 2).toNatClampNeg)
  refine lv_aload_n hx hb dL_law_921 rfl (lv_at hl 3 rfl) ?_
  refine lv_aload_n hx hb dL_law_922 rfl (lv_at hl 4 rfl) ?_
  refine lv_iload hx hb dL_law_923 (lv_at hl 0 rfl) ?_
  refine lv_iconst (v := 1) hx hb dL_law_925 (by decide) ?_
  refine lv_iadd hx hb dL_law_926 ?_
  refine va_sld hx hb hX hbl hbA hD.2.1 (zl_in (k := 1) (by decide) hi hLn (by decide)) dL_law_927 ?_
  refine lv_aload_n hx hb dL_law_928 rfl (lv_at hl 4 rfl) ?_
  refine lv_iload hx hb dL_law_929 (lv_at hl 0 rfl) ?_
  refine lv_iconst (v := 2) hx hb dL_law_931 (by decide) ?_
  refine lv_iadd hx hb dL_law_932 ?_
  refine va_sld hx hb hX hbl hbA hD.2.1 (zl_in (k := 2) (by decide) hi hLn (by decide)) dL_law_933 ?_
  refine zlV (w := zw l D T B Z g) (k := 0) (as := [.int (xs (nI i + 1).toNatClampNeg), .int (xs (nI i + 2).toNatClampNeg)]) (rest := []) hA hD (c_X11_best (zw l D T B Z g) S 0 _ _ M) e1 rfl mv_X11_best rfl hs1 zg_1024 (by decide) hl.1 (Nat.le_of_ble_eq_true rfl) dL_law_934 (fun H locs hD => ?_)
  refine lv_aload_n hx hb dL_law_937 rfl (lv_at hl 2 rfl) ?_
  refine lv_aload_n hx hb dL_law_938 rfl (lv_at hl 4 rfl) ?_
  refine lv_iload hx hb dL_law_939 (lv_at hl 0 rfl) ?_
  refine lv_iconst (v := 1) hx hb dL_law_941 (by decide) ?_
  refine lv_iadd hx hb dL_law_942 ?_
  refine va_sld hx hb hX hbl hbA hD.2.1 (zl_in (k := 1) (by decide) hi hLn (by decide)) dL_law_943 ?_
  refine lv_aload_n hx hb dL_law_944 rfl (lv_at hl 4 rfl) ?_
  refine lv_iload hx hb dL_law_945 (lv_at hl 0 rfl) ?_
  refine lv_iconst (v := 2) hx hb dL_law_947 (by decide) ?_
  refine lv_iadd hx hb dL_law_948 ?_
  refine va_sld hx hb hX hbl hbA hD.2.1 (zl_in (k := 2) (by decide) hi hLn (by decide)) dL_law_949 ?_
  refine zlV (w := zw l D T B Z g) (k := 306) (as := [.int (xs (nI i + 1).toNatClampNeg), .int (xs (nI i + 2).toNatClampNeg)]) (rest := [.int (v)]) hA hD (c_X12_best (zw l D T B Z g) S 306 _ _ M1) e2 rfl mv_X12_best rfl hs2 zg_1878 (by decide) hl.1 (Nat.le_of_ble_eq_true rfl) dL_law_950 (fun H locs hD => ?_)
  refine lv_icmp_eq (tgt := 1522) hx hb dL_law_953 (by decide) (fun _ => ?_) (fun h => absurd rfl h)
  exact kk M2 H locs cells slots lsr hI2 ⟨g, hD, by omega, by omega⟩ hl
set_option maxHeartbeats 4000000 in
set_option maxRecDepth 100000 in
theorem zl_fair {Inv : List (Nat × Nat) → zM → Prop} {l : Launch} {D : va_G} {T : Nat → ClassId} {B : Nat} {Z : State → Prop} {p : Program} {e : Env} {s : State} {m : MethodId} {args : Array Value} {below : List Frame} {meth : Method} {c : Code} {Q : State → Prop} {b Ln i g : Nat} {xs : Nat → Int32} {S : List (Nat × Nat)} {M : zM} {H : Heap} {locs : List Loc} {cells slots : Nat} {lsr : Array Slot} (hP : zP_fair Inv) (hA : zLA (zw l D T B Z g) RL code 7 p s m args c) (hD : zLD (zw l D T B Z g) s room_1 (S, M) H locs cells slots) (hce : cells ≤ 1000 + i ∧ slots ≤ 20000 + 6 * i) (hX : va_X b Ln xs s s.heap) (hbl : b < s.heap.size) (hbA : ¬ B ≤ b) (hi : i + 6 ≤ Ln) (hLn : Ln ≤ 3072) (hl : lv_has lsr 7 (zll B b i)) (hI : Inv S M) (hsh : zP_shape Inv) (kk : ∀ M' H' locs' cells' slots' lsr', Inv S M' → zlS l D T B Z s S M' H' locs' cells' slots' (i + 6) → lv_has lsr' 7 (zll B b i) → W p l e room_1 s m args below meth c H' locs' cells' slots' Q (F0 m 1522 lsr' [])) : W p l e room_1 s m args below meth c H locs cells slots Q (F0 m 958 lsr []) := by
  obtain ⟨hx, hb, -⟩ := id hA
  obtain ⟨hs1, hs2, -⟩ := hsh S M hI
  obtain ⟨v, M1, M2, e1, e2, hI2⟩ := hP S M hI (xs (nI i + 1).toNatClampNeg)
  refine lv_aload_n hx hb dL_law_958 rfl (lv_at hl 3 rfl) ?_
  refine lv_aload_n hx hb dL_law_959 rfl (lv_at hl 4 rfl) ?_
  refine lv_iload hx hb dL_law_960 (lv_at hl 0 rfl) ?_
  refine lv_iconst (v := 1) hx hb dL_law_962 (by decide) ?_
  refine lv_iadd hx hb dL_law_963 ?_
  refine va_sld hx hb hX hbl hbA hD.2.1 (zl_in (k := 1) (by decide) hi hLn (by decide)) dL_law_964 ?_
  refine zlV (w := zw l D T B Z g) (k := 0) (as := [.int (xs (nI i + 1).toNatClampNeg)]) (rest := []) hA hD (c_X11_fair (zw l D T B Z g) S 0 _ M) e1 rfl mv_X11_fair rfl hs1 zg_1047 (by decide) hl.1 (Nat.le_of_ble_eq_true rfl) dL_law_965 (fun H locs hD => ?_)
  refine lv_aload_n hx hb dL_law_968 rfl (lv_at hl 2 rfl) ?_
  refine lv_aload_n hx hb dL_law_969 rfl (lv_at hl 4 rfl) ?_
  refine lv_iload hx hb dL_law_970 (lv_at hl 0 rfl) ?_
  refine lv_iconst (v := 1) hx hb dL_law_972 (by decide) ?_
  refine lv_iadd hx hb dL_law_973 ?_
  refine va_sld hx hb hX hbl hbA hD.2.1 (zl_in (k := 1) (by decide) hi hLn (by decide)) dL_law_974 ?_
  refine zlV (w := zw l D T B Z g) (k := 306) (as := [.int (xs (nI i + 1).toNatClampNeg)]) (rest := [.int (v)]) hA hD (c_X12_fair (zw l D T B Z g) S 306 _ M1) e2 rfl mv_X12_fair rfl hs2 zg_1886 (by decide) hl.1 (Nat.le_of_ble_eq_true rfl) dL_law_975 (fun H locs hD => ?_)
  refine lv_icmp_eq (tgt := 1522) hx hb dL_law_978 (by decide) (fun _ => ?_) (fun h => absurd rfl h)
  exact kk M2 H locs cells slots lsr hI2 ⟨g, hD, by omega, by omega⟩ hl
set_option maxHeartbeats 4000000 in
set_option maxRecDepth 100000 in
theorem zl_pairs {Inv : List (Nat × Nat) → zM → Prop} {l : Launch} {D : va_G} {T : Nat → ClassId} {B : Nat} {Z : State → Prop} {p : Program} {e : Env} {s : State} {m : MethodId} {args : Array Value} {below : List Frame} {meth : Method} {c : Code} {Q : State → Prop} {b Ln i g : Nat} {xs : Nat → Int32} {S : List (Nat × Nat)} {M : zM} {H : Heap} {locs : List Loc} {cells slots : Nat} {lsr : Array Slot} (hP : zP_pairs Inv) (hA : zLA (zw l D T B Z g) RL code 7 p s m args c) (hD : zLD (zw l D T B Z g) s room_1 (S, M) H locs cells slots) (hce : cells ≤ 1000 + i ∧ slots ≤ 20000 + 6 * i) (hX : va_X b Ln xs s s.heap) (hbl : b < s.heap.size) (hbA : ¬ B ≤ b) (hi : i + 6 ≤ Ln) (hLn : Ln ≤ 3072) (hl : lv_has lsr 7 (zll B b i)) (hI : Inv S M) (hsh : zP_shape Inv) (kk : ∀ M' H' locs' cells' slots' lsr', Inv S M' → zlS l D T B Z s S M' H' locs' cells' slots' (i + 6) → lv_has lsr' 7 (zll B b i) → W p l e room_1 s m args below meth c H' locs' cells' slots' Q (F0 m 1522 lsr' [])) : W p l e room_1 s m args below meth c H locs cells slots Q (F0 m 983 lsr []) := by
  obtain ⟨hx, hb, -⟩ := id hA
  obtain ⟨hs1, hs2, -⟩ := hsh S M hI
  obtain ⟨v, M2, e1, e2, hI2⟩ := hP S M hI 
  refine lv_aload_n hx hb dL_law_983 rfl (lv_at hl 3 rfl) ?_
  refine zlV (w := zw l D T B Z g) (k := 0) (as := []) (rest := []) hA hD (c_X11_pairs (zw l D T B Z g) S 0  M) e1 rfl mv_X11_pairs rfl hs1 zg_1076 (by decide) hl.1 (Nat.le_of_ble_eq_true rfl) dL_law_984 (fun H locs hD => ?_)
  refine lv_aload_n hx hb dL_law_987 rfl (lv_at hl 2 rfl) ?_
  refine zlV (w := zw l D T B Z g) (k := 306) (as := []) (rest := [.int (v)]) hA hD (c_X12_pairs (zw l D T B Z g) S 306  M) e2 rfl mv_X12_pairs rfl hs2 zg_1905 (by decide) hl.1 (Nat.le_of_ble_eq_true rfl) dL_law_988 (fun H locs hD => ?_)
  refine lv_icmp_eq (tgt := 1522) hx hb dL_law_991 (by decide) (fun _ => ?_) (fun h => absurd rfl h)
  exact kk M2 H locs cells slots lsr hI2 ⟨g, hD, by omega, by omega⟩ hl
set_option maxHeartbeats 4000000 in
set_option maxRecDepth 100000 in
theorem zl_power {Inv : List (Nat × Nat) → zM → Prop} {l : Launch} {D : va_G} {T : Nat → ClassId} {B : Nat} {Z : State → Prop} {p : Program} {e : Env} {s : State} {m : MethodId} {args : Array Value} {below : List Frame} {meth : Method} {c : Code} {Q : State → Prop} {b Ln i g : Nat} {xs : Nat → Int32} {S : List (Nat × Nat)} {M : zM} {H : Heap} {locs : List Loc} {cells slots : Nat} {lsr : Array Slot} (hP : zP_power Inv) (hA : zLA (zw l D T B Z g) RL code 7 p s m args c) (hD : zLD (zw l D T B Z g) s room_1 (S, M) H locs cells slots) (hce : cells ≤ 1000 + i ∧ slots ≤ 20000 + 6 * i) (hX : va_X b Ln xs s s.heap) (hbl : b < s.heap.size) (hbA : ¬ B ≤ b) (hi : i + 6 ≤ Ln) (hLn : Ln ≤ 3072) (hl : lv_has lsr 7 (zll B b i)) (hI : Inv S M) (hsh : zP_shape Inv) (kk : ∀ M' H' locs' cells' slots' lsr', Inv S M' → zlS l D T B Z s S M' H' locs' cells' slots' (i + 6) → lv_has lsr' 7 (zll B b i) → W p l e room_1 s m args below meth c H' locs' cells' slots' Q (F0 m 1522 lsr' [])) : W p l e room_1 s m args below meth c H locs cells slots Q (F0 m 996 lsr []) := by
  obtain ⟨hx, hb, -⟩ := id hA
  obtain ⟨hs1, hs2, -⟩ := hsh S M hI
  obtain ⟨v, M1, M2, e1, e2, hI2⟩ := hP S M hI (xs (nI i + 1).toNatClampNeg)
  refine lv_aload_n hx hb dL_law_996 rfl (lv_at hl 3 rfl) ?_
  refine lv_aload_n hx hb dL_law_997 rfl (lv_at hl 4 rfl) ?_
  refine lv_iload hx hb dL_law_998 (lv_at hl 0 rfl) ?_
  refine lv_iconst (v := 1) hx hb dL_law_1000 (by decide) ?_
  refine lv_iadd hx hb dL_law_1001 ?_
  refine va_sld hx hb hX hbl hbA hD.2.1 (zl_in (k := 1) (by decide) hi hLn (by decide)) dL_law_1002 ?_
  refine zlV (w := zw l D T B Z g) (k := 0) (as := [.int (xs (nI i + 1).toNatClampNeg)]) (rest := []) hA hD (c_X11_power (zw l D T B Z g) S 0 _ M) e1 rfl mv_X11_power rfl hs1 zg_1084 (by decide) hl.1 (Nat.le_of_ble_eq_true rfl) dL_law_1003 (fun H locs hD => ?_)
  refine lv_aload_n hx hb dL_law_1006 rfl (lv_at hl 2 rfl) ?_
  refine lv_aload_n hx hb dL_law_1007 rfl (lv_at hl 4 rfl) ?_
  refine lv_iload hx hb dL_law_1008 (lv_at hl 0 rfl) ?_
  refine lv_iconst (v := 1) hx hb dL_law_1010 (by decide) ?_
  refine lv_iadd hx hb dL_law_1011 ?_
  refine va_sld hx hb hX hbl hbA hD.2.1 (zl_in (k := 1) (by decide) hi hLn (by decide)) dL_law_1012 ?_
  refine zlV (w := zw l D T B Z g) (k := 306) (as := [.int (xs (nI i + 1).toNatClampNeg)]) (rest := [.int (v)]) hA hD (c_X12_power (zw l D T B Z g) S 306 _ M1) e2 rfl mv_X12_power rfl hs2 zg_1909 (by decide) hl.1 (Nat.le_of_ble_eq_true rfl) dL_law_1013 (fun H locs hD => ?_)
  refine lv_icmp_eq (tgt := 1522) hx hb dL_law_1016 (by decide) (fun _ => ?_) (fun h => absurd rfl h)
  exact kk M2 H locs cells slots lsr hI2 ⟨g, hD, by omega, by omega⟩ hl
set_option maxHeartbeats 4000000 in
set_option maxRecDepth 100000 in
theorem zl_even {Inv : List (Nat × Nat) → zM → Prop} {l : Launch} {D : va_G} {T : Nat → ClassId} {B : Nat} {Z : State → Prop} {p : Program} {e : Env} {s : State} {m : MethodId} {args : Array Value} {below : List Frame} {meth : Method} {c : Code} {Q : State → Prop} {b Ln i g : Nat} {xs : Nat → Int32} {S : List (Nat × Nat)} {M : zM} {H : Heap} {locs : List Loc} {cells slots : Nat} {lsr : Array Slot} (hP : zP_even Inv) (hA : zLA (zw l D T B Z g) RL code 7 p s m args c) (hD : zLD (zw l D T B Z g) s room_1 (S, M) H locs cells slots) (hce : cells ≤ 1000 + i ∧ slots ≤ 20000 + 6 * i) (hX : va_X b Ln xs s s.heap) (hbl : b < s.heap.size) (hbA : ¬ B ≤ b) (hi : i + 6 ≤ Ln) (hLn : Ln ≤ 3072) (hl : lv_has lsr 7 (zll B b i)) (hI : Inv S M) (hsh : zP_shape Inv) (kk : ∀ M' H' locs' cells' slots' lsr', Inv S M' → zlS l D T B Z s S M' H' locs' cells' slots' (i + 6) → lv_has lsr' 7 (zll B b i) → W p l e room_1 s m args below meth c H' locs' cells' slots' Q (F0 m 1522 lsr' [])) : W p l e room_1 s m args below meth c H locs cells slots Q (F0 m 1021 lsr []) := by
  obtain ⟨hx, hb, -⟩ := id hA
  obtain ⟨hs1, hs2, -⟩ := hsh S M hI
  obtain ⟨v, M1, M2, e1, e2, hI2⟩ := hP S M hI (xs (nI i + 1).toNatClampNeg)
  refine lv_aload_n hx hb dL_law_1021 rfl (lv_at hl 3 rfl) ?_
  refine lv_aload_n hx hb dL_law_1022 rfl (lv_at hl 4 rfl) ?_
  refine lv_iload hx hb dL_law_1023 (lv_at hl 0 rfl) ?_
  refine lv_iconst (v := 1) hx hb dL_law_1025 (by decide) ?_
  refine lv_iadd hx hb dL_law_1026 ?_
  refine va_sld hx hb hX hbl hbA hD.2.1 (zl_in (k := 1) (by decide) hi hLn (by decide)) dL_law_1027 ?_
  refine zlV (w := zw l D T B Z g) (k := 0) (as := [.int (xs (nI i + 1).toNatClampNeg)]) (rest := []) hA hD (c_X11_even (zw l D T B Z g) S 0 _ M) e1 rfl mv_X11_even rfl hs1 zg_1104 (by decide) hl.1 (Nat.le_of_ble_eq_true rfl) dL_law_1028 (fun H locs hD => ?_)
  refine lv_aload_n hx hb dL_law_1031 rfl (lv_at hl 2 rfl) ?_
  refine lv_aload_n hx hb dL_law_1032 rfl (lv_at hl 4 rfl) ?_
  refine lv_iload hx hb dL_law_1033 (lv_at hl 0 rfl) ?_
  refine lv_iconst (v := 1) hx hb dL_law_1035 (by decide) ?_
  refine lv_iadd hx hb dL_law_1036 ?_
  refine va_sld hx hb hX hbl hbA hD.2.1 (zl_in (k := 1) (by decide) hi hLn (by decide)) dL_law_1037 ?_
  refine zlV (w := zw l D T B Z g) (k := 306) (as := [.int (xs (nI i + 1).toNatClampNeg)]) (rest := [.int (v)]) hA hD (c_X12_even (zw l D T B Z g) S 306 _ M1) e2 rfl mv_X12_even rfl hs2 zg_1917 (by decide) hl.1 (Nat.le_of_ble_eq_true rfl) dL_law_1038 (fun H locs hD => ?_)
  refine lv_icmp_eq (tgt := 1522) hx hb dL_law_1041 (by decide) (fun _ => ?_) (fun h => absurd rfl h)
  exact kk M2 H locs cells slots lsr hI2 ⟨g, hD, by omega, by omega⟩ hl
set_option maxHeartbeats 4000000 in
set_option maxRecDepth 100000 in
theorem zl_rare {Inv : List (Nat × Nat) → zM → Prop} {l : Launch} {D : va_G} {T : Nat → ClassId} {B : Nat} {Z : State → Prop} {p : Program} {e : Env} {s : State} {m : MethodId} {args : Array Value} {below : List Frame} {meth : Method} {c : Code} {Q : State → Prop} {b Ln i g : Nat} {xs : Nat → Int32} {S : List (Nat × Nat)} {M : zM} {H : Heap} {locs : List Loc} {cells slots : Nat} {lsr : Array Slot} (hP : zP_rare Inv) (hA : zLA (zw l D T B Z g) RL code 7 p s m args c) (hD : zLD (zw l D T B Z g) s room_1 (S, M) H locs cells slots) (hce : cells ≤ 1000 + i ∧ slots ≤ 20000 + 6 * i) (hX : va_X b Ln xs s s.heap) (hbl : b < s.heap.size) (hbA : ¬ B ≤ b) (hi : i + 6 ≤ Ln) (hLn : Ln ≤ 3072) (hl : lv_has lsr 7 (zll B b i)) (hI : Inv S M) (hsh : zP_shape Inv) (kk : ∀ M' H' locs' cells' slots' lsr', Inv S M' → zlS l D T B Z s S M' H' locs' cells' slots' (i + 6) → lv_has lsr' 7 (zll B b i) → W p l e room_1 s m args below meth c H' locs' cells' slots' Q (F0 m 1522 lsr' [])) : W p l e room_1 s m args below meth c H locs cells slots Q (F0 m 1046 lsr []) := by
  obtain ⟨hx, hb, -⟩ := id hA
  obtain ⟨hs1, hs2, -⟩ := hsh S M hI
  obtain ⟨v, M2, e1, e2, hI2⟩ := hP S M hI 
  refine lv_aload_n hx hb dL_law_1046 rfl (lv_at hl 3 rfl) ?_
  refine zlV (w := zw l D T B Z g) (k := 0) (as := []) (rest := []) hA hD (c_X11_rare (zw l D T B Z g) S 0  M) e1 rfl mv_X11_rare rfl hs1 zg_1112 (by decide) hl.1 (Nat.le_of_ble_eq_true rfl) dL_law_1047 (fun H locs hD => ?_)
  refine lv_aload_n hx hb dL_law_1050 rfl (lv_at hl 2 rfl) ?_
  refine zlV (w := zw l D T B Z g) (k := 306) (as := []) (rest := [.int (v)]) hA hD (c_X12_rare (zw l D T B Z g) S 306  M) e2 rfl mv_X12_rare rfl hs2 zg_1921 (by decide) hl.1 (Nat.le_of_ble_eq_true rfl) dL_law_1051 (fun H locs hD => ?_)
  refine lv_icmp_eq (tgt := 1522) hx hb dL_law_1054 (by decide) (fun _ => ?_) (fun h => absurd rfl h)
  exact kk M2 H locs cells slots lsr hI2 ⟨g, hD, by omega, by omega⟩ hl
set_option maxHeartbeats 4000000 in
set_option maxRecDepth 100000 in
theorem zl_rests {Inv : List (Nat × Nat) → zM → Prop} {l : Launch} {D : va_G} {T : Nat → ClassId} {B : Nat} {Z : State → Prop} {p : Program} {e : Env} {s : State} {m : MethodId} {args : Array Value} {below : List Frame} {meth : Method} {c : Code} {Q : State → Prop} {b Ln i g : Nat} {xs : Nat → Int32} {S : List (Nat × Nat)} {M : zM} {H : Heap} {locs : List Loc} {cells slots : Nat} {lsr : Array Slot} (hP : zP_rests Inv) (hA : zLA (zw l D T B Z g) RL code 7 p s m args c) (hD : zLD (zw l D T B Z g) s room_1 (S, M) H locs cells slots) (hce : cells ≤ 1000 + i ∧ slots ≤ 20000 + 6 * i) (hX : va_X b Ln xs s s.heap) (hbl : b < s.heap.size) (hbA : ¬ B ≤ b) (hi : i + 6 ≤ Ln) (hLn : Ln ≤ 3072) (hl : lv_has lsr 7 (zll B b i)) (hI : Inv S M) (hsh : zP_shape Inv) (kk : ∀ M' H' locs' cells' slots' lsr', Inv S M' → zlS l D T B Z s S M' H' locs' cells' slots' (i + 6) → lv_has lsr' 7 (zll B b i) → W p l e room_1 s m args below meth c H' locs' cells' slots' Q (F0 m 1522 lsr' [])) : W p l e room_1 s m args below meth c H locs cells slots Q (F0 m 1059 lsr []) := by
  obtain ⟨hx, hb, -⟩ := id hA
  obtain ⟨hs1, hs2, -⟩ := hsh S M hI
  obtain ⟨v, M2, e1, e2, hI2⟩ := hP S M hI (xs (nI i + 1).toNatClampNeg) (xs (nI i + 2).toNatClampNeg)
  refine lv_aload_n hx hb dL_law_1059 rfl (lv_at hl 3 rfl) ?_
  refine lv_aload_n hx hb dL_law_1060 rfl (lv_at hl 4 rfl) ?_
  refine lv_iload hx hb dL_law_1061 (lv_at hl 0 rfl) ?_
  refine lv_iconst (v := 1) hx hb dL_law_1063 (by decide) ?_
  refine lv_iadd hx hb dL_law_1064 ?_
  refine va_sld hx hb hX hbl hbA hD.2.1 (zl_in (k := 1) (by decide) hi hLn (by decide)) dL_law_1065 ?_
  refine lv_aload_n hx hb dL_law_1066 rfl (lv_at hl 4 rfl) ?_
  refine lv_iload hx hb dL_law_1067 (lv_at hl 0 rfl) ?_
  refine lv_iconst (v := 2) hx hb dL_law_1069 (by decide) ?_
  refine lv_iadd hx hb dL_law_1070 ?_
  refine va_sld hx hb hX hbl hbA hD.2.1 (zl_in (k := 2) (by decide) hi hLn (by decide)) dL_law_1071 ?_
  refine zlV (w := zw l D T B Z g) (k := 0) (as := [.int (xs (nI i + 1).toNatClampNeg), .int (xs (nI i + 2).toNatClampNeg)]) (rest := []) hA hD (c_X11_rests (zw l D T B Z g) S 0 _ _ M) e1 rfl mv_X11_rests rfl hs1 zg_1117 (by decide) hl.1 (Nat.le_of_ble_eq_true rfl) dL_law_1072 (fun H locs hD => ?_)
  refine lv_aload_n hx hb dL_law_1075 rfl (lv_at hl 2 rfl) ?_
  refine lv_aload_n hx hb dL_law_1076 rfl (lv_at hl 4 rfl) ?_
  refine lv_iload hx hb dL_law_1077 (lv_at hl 0 rfl) ?_
  refine lv_iconst (v := 1) hx hb dL_law_1079 (by decide) ?_
  refine lv_iadd hx hb dL_law_1080 ?_
  refine va_sld hx hb hX hbl hbA hD.2.1 (zl_in (k := 1) (by decide) hi hLn (by decide)) dL_law_1081 ?_
  refine lv_aload_n hx hb dL_law_1082 rfl (lv_at hl 4 rfl) ?_
  refine lv_iload hx hb dL_law_1083 (lv_at hl 0 rfl) ?_
  refine lv_iconst (v := 2) hx hb dL_law_1085 (by decide) ?_
  refine lv_iadd hx hb dL_law_1086 ?_
  refine va_sld hx hb hX hbl hbA hD.2.1 (zl_in (k := 2) (by decide) hi hLn (by decide)) dL_law_1087 ?_
  refine zlV (w := zw l D T B Z g) (k := 306) (as := [.int (xs (nI i + 1).toNatClampNeg), .int (xs (nI i + 2).toNatClampNeg)]) (rest := [.int (v)]) hA hD (c_X12_rests (zw l D T B Z g) S 306 _ _ M) e2 rfl mv_X12_rests rfl hs2 zg_1925 (by decide) hl.1 (Nat.le_of_ble_eq_true rfl) dL_law_1088 (fun H locs hD => ?_)
  refine lv_icmp_eq (tgt := 1522) hx hb dL_law_1091 (by decide) (fun _ => ?_) (fun h => absurd rfl h)
  exact kk M2 H locs cells slots lsr hI2 ⟨g, hD, by omega, by omega⟩ hl
set_option maxHeartbeats 4000000 in
set_option maxRecDepth 100000 in
theorem zl_rest {Inv : List (Nat × Nat) → zM → Prop} {l : Launch} {D : va_G} {T : Nat → ClassId} {B : Nat} {Z : State → Prop} {p : Program} {e : Env} {s : State} {m : MethodId} {args : Array Value} {below : List Frame} {meth : Method} {c : Code} {Q : State → Prop} {b Ln i g : Nat} {xs : Nat → Int32} {S : List (Nat × Nat)} {M : zM} {H : Heap} {locs : List Loc} {cells slots : Nat} {lsr : Array Slot} (hP : zP_rest Inv) (hA : zLA (zw l D T B Z g) RL code 7 p s m args c) (hD : zLD (zw l D T B Z g) s room_1 (S, M) H locs cells slots) (hce : cells ≤ 1000 + i ∧ slots ≤ 20000 + 6 * i) (hX : va_X b Ln xs s s.heap) (hbl : b < s.heap.size) (hbA : ¬ B ≤ b) (hi : i + 6 ≤ Ln) (hLn : Ln ≤ 3072) (hl : lv_has lsr 7 (zll B b i)) (hI : Inv S M) (hsh : zP_shape Inv) (kk : ∀ M' H' locs' cells' slots' lsr', Inv S M' → zlS l D T B Z s S M' H' locs' cells' slots' (i + 6) → lv_has lsr' 7 (zll B b i) → W p l e room_1 s m args below meth c H' locs' cells' slots' Q (F0 m 1522 lsr' [])) : W p l e room_1 s m args below meth c H locs cells slots Q (F0 m 1096 lsr []) := by
  obtain ⟨hx, hb, -⟩ := id hA
  obtain ⟨hs1, hs2, -⟩ := hsh S M hI
  obtain ⟨v, M2, e1, e2, hI2⟩ := hP S M hI (xs (nI i + 1).toNatClampNeg) (xs (nI i + 2).toNatClampNeg) (xs (nI i + 3).toNatClampNeg)
  refine lv_aload_n hx hb dL_law_1096 rfl (lv_at hl 3 rfl) ?_
  refine lv_aload_n hx hb dL_law_1097 rfl (lv_at hl 4 rfl) ?_
  refine lv_iload hx hb dL_law_1098 (lv_at hl 0 rfl) ?_
  refine lv_iconst (v := 1) hx hb dL_law_1100 (by decide) ?_
  refine lv_iadd hx hb dL_law_1101 ?_
  refine va_sld hx hb hX hbl hbA hD.2.1 (zl_in (k := 1) (by decide) hi hLn (by decide)) dL_law_1102 ?_
  refine lv_aload_n hx hb dL_law_1103 rfl (lv_at hl 4 rfl) ?_
  refine lv_iload hx hb dL_law_1104 (lv_at hl 0 rfl) ?_
  refine lv_iconst (v := 2) hx hb dL_law_1106 (by decide) ?_
  refine lv_iadd hx hb dL_law_1107 ?_
  refine va_sld hx hb hX hbl hbA hD.2.1 (zl_in (k := 2) (by decide) hi hLn (by decide)) dL_law_1108 ?_
  refine lv_aload_n hx hb dL_law_1109 rfl (lv_at hl 4 rfl) ?_
  refine lv_iload hx hb dL_law_1110 (lv_at hl 0 rfl) ?_
  refine lv_iconst (v := 3) hx hb dL_law_1112 (by decide) ?_
  refine lv_iadd hx hb dL_law_1113 ?_
  refine va_sld hx hb hX hbl hbA hD.2.1 (zl_in (k := 3) (by decide) hi hLn (by decide)) dL_law_1114 ?_
  refine zlV (w := zw l D T B Z g) (k := 0) (as := [.int (xs (nI i + 1).toNatClampNeg), .int (xs (nI i + 2).toNatClampNeg), .int (xs (nI i + 3).toNatClampNeg)]) (rest := []) hA hD (c_X11_rest (zw l D T B Z g) S 0 _ _ _ M) e1 rfl mv_X11_rest rfl hs1 zg_1130 (by decide) hl.1 (Nat.le_of_ble_eq_true rfl) dL_law_1115 (fun H locs hD => ?_)
  refine lv_aload_n hx hb dL_law_1118 rfl (lv_at hl 2 rfl) ?_
  refine lv_aload_n hx hb dL_law_1119 rfl (lv_at hl 4 rfl) ?_
  refine lv_iload hx hb dL_law_1120 (lv_at hl 0 rfl) ?_
  refine lv_iconst (v := 1) hx hb dL_law_1122 (by decide) ?_
  refine lv_iadd hx hb dL_law_1123 ?_
  refine va_sld hx hb hX hbl hbA hD.2.1 (zl_in (k := 1) (by decide) hi hLn (by decide)) dL_law_1124 ?_
  refine lv_aload_n hx hb dL_law_1125 rfl (lv_at hl 4 rfl) ?_
  refine lv_iload hx hb dL_law_1126 (lv_at hl 0 rfl) ?_
  refine lv_iconst (v := 2) hx hb dL_law_1128 (by decide) ?_
  refine lv_iadd hx hb dL_law_1129 ?_
  refine va_sld hx hb hX hbl hbA hD.2.1 (zl_in (k := 2) (by decide) hi hLn (by decide)) dL_law_1130 ?_
  refine lv_aload_n hx hb dL_law_1131 rfl (lv_at hl 4 rfl) ?_
  refine lv_iload hx hb dL_law_1132 (lv_at hl 0 rfl) ?_
  refine lv_iconst (v := 3) hx hb dL_law_1134 (by decide) ?_
  refine lv_iadd hx hb dL_law_1135 ?_
  refine va_sld hx hb hX hbl hbA hD.2.1 (zl_in (k := 3) (by decide) hi hLn (by decide)) dL_law_1136 ?_
  refine zlV (w := zw l D T B Z g) (k := 306) (as := [.int (xs (nI i + 1).toNatClampNeg), .int (xs (nI i + 2).toNatClampNeg), .int (xs (nI i + 3).toNatClampNeg)]) (rest := [.int (v)]) hA hD (c_X12_rest (zw l D T B Z g) S 306 _ _ _ M) e2 rfl mv_X12_rest rfl hs2 zg_1945 (by decide) hl.1 (Nat.le_of_ble_eq_true rfl) dL_law_1137 (fun H locs hD => ?_)
  refine lv_icmp_eq (tgt := 1522) hx hb dL_law_1140 (by decide) (fun _ => ?_) (fun h => absurd rfl h)
  exact kk M2 H locs cells slots lsr hI2 ⟨g, hD, by omega, by omega⟩ hl
set_option maxHeartbeats 4000000 in
set_option maxRecDepth 100000 in
theorem zl_sure {Inv : List (Nat × Nat) → zM → Prop} {l : Launch} {D : va_G} {T : Nat → ClassId} {B : Nat} {Z : State → Prop} {p : Program} {e : Env} {s : State} {m : MethodId} {args : Array Value} {below : List Frame} {meth : Method} {c : Code} {Q : State → Prop} {b Ln i g : Nat} {xs : Nat → Int32} {S : List (Nat × Nat)} {M : zM} {H : Heap} {locs : List Loc} {cells slots : Nat} {lsr : Array Slot} (hP : zP_sure Inv) (hA : zLA (zw l D T B Z g) RL code 7 p s m args c) (hD : zLD (zw l D T B Z g) s room_1 (S, M) H locs cells slots) (hce : cells ≤ 1000 + i ∧ slots ≤ 20000 + 6 * i) (hX : va_X b Ln xs s s.heap) (hbl : b < s.heap.size) (hbA : ¬ B ≤ b) (hi : i + 6 ≤ Ln) (hLn : Ln ≤ 3072) (hl : lv_has lsr 7 (zll B b i)) (hI : Inv S M) (hsh : zP_shape Inv) (kk : ∀ M' H' locs' cells' slots' lsr', Inv S M' → zlS l D T B Z s S M' H' locs' cells' slots' (i + 6) → lv_has lsr' 7 (zll B b i) → W p l e room_1 s m args below meth c H' locs' cells' slots' Q (F0 m 1522 lsr' [])) : W p l e room_1 s m args below meth c H locs cells slots Q (F0 m 1145 lsr []) := by
  obtain ⟨hx, hb, -⟩ := id hA
  obtain ⟨hs1, hs2, -⟩ := hsh S M hI
  obtain ⟨v, M2, e1, e2, hI2⟩ := hP S M hI (xs (nI i + 1).toNatClampNeg) (xs (nI i + 2).toNatClampNeg)
  refine lv_aload_n hx hb dL_law_1145 rfl (lv_at hl 3 rfl) ?_
  refine lv_aload_n hx hb dL_law_1146 rfl (lv_at hl 4 rfl) ?_
  refine lv_iload hx hb dL_law_1147 (lv_at hl 0 rfl) ?_
  refine lv_iconst (v := 1) hx hb dL_law_1149 (by decide) ?_
  refine lv_iadd hx hb dL_law_1150 ?_
  refine va_sld hx hb hX hbl hbA hD.2.1 (zl_in (k := 1) (by decide) hi hLn (by decide)) dL_law_1151 ?_
  refine lv_aload_n hx hb dL_law_1152 rfl (lv_at hl 4 rfl) ?_
  refine lv_iload hx hb dL_law_1153 (lv_at hl 0 rfl) ?_
  refine lv_iconst (v := 2) hx hb dL_law_1155 (by decide) ?_
  refine lv_iadd hx hb dL_law_1156 ?_
  refine va_sld hx hb hX hbl hbA hD.2.1 (zl_in (k := 2) (by decide) hi hLn (by decide)) dL_law_1157 ?_
  refine zlV (w := zw l D T B Z g) (k := 0) (as := [.int (xs (nI i + 1).toNatClampNeg), .int (xs (nI i + 2).toNatClampNeg)]) (rest := []) hA hD (c_X11_sure (zw l D T B Z g) S 0 _ _ M) e1 rfl mv_X11_sure rfl hs1 zg_1134 (by decide) hl.1 (Nat.le_of_ble_eq_true rfl) dL_law_1158 (fun H locs hD => ?_)
  refine lv_aload_n hx hb dL_law_1161 rfl (lv_at hl 2 rfl) ?_
  refine lv_aload_n hx hb dL_law_1162 rfl (lv_at hl 4 rfl) ?_
  refine lv_iload hx hb dL_law_1163 (lv_at hl 0 rfl) ?_
  refine lv_iconst (v := 1) hx hb dL_law_1165 (by decide) ?_
  refine lv_iadd hx hb dL_law_1166 ?_
  refine va_sld hx hb hX hbl hbA hD.2.1 (zl_in (k := 1) (by decide) hi hLn (by decide)) dL_law_1167 ?_
  refine lv_aload_n hx hb dL_law_1168 rfl (lv_at hl 4 rfl) ?_
  refine lv_iload hx hb dL_law_1169 (lv_at hl 0 rfl) ?_
  refine lv_iconst (v := 2) hx hb dL_law_1171 (by decide) ?_
  refine lv_iadd hx hb dL_law_1172 ?_
  refine va_sld hx hb hX hbl hbA hD.2.1 (zl_in (k := 2) (by decide) hi hLn (by decide)) dL_law_1173 ?_
  refine zlV (w := zw l D T B Z g) (k := 306) (as := [.int (xs (nI i + 1).toNatClampNeg), .int (xs (nI i + 2).toNatClampNeg)]) (rest := [.long (v)]) hA hD (c_X12_sure (zw l D T B Z g) S 306 _ _ M) e2 rfl mv_X12_sure rfl hs2 zg_1949 (by decide) hl.1 (Nat.le_of_ble_eq_true rfl) dL_law_1174 (fun H locs hD => ?_)
  refine W.lcmp hx hb dL_law_1177 ?_
  refine lv_if_eq (tgt := 1522) hx hb dL_law_1178 (by decide) (fun _ => ?_) (fun h => absurd (zcmp v) h)
  exact kk M2 H locs cells slots lsr hI2 ⟨g, hD, by omega, by omega⟩ hl
set_option maxHeartbeats 4000000 in
set_option maxRecDepth 100000 in
theorem zl_note {Inv : List (Nat × Nat) → zM → Prop} {l : Launch} {D : va_G} {T : Nat → ClassId} {B : Nat} {Z : State → Prop} {p : Program} {e : Env} {s : State} {m : MethodId} {args : Array Value} {below : List Frame} {meth : Method} {c : Code} {Q : State → Prop} {b Ln i g : Nat} {xs : Nat → Int32} {S : List (Nat × Nat)} {M : zM} {H : Heap} {locs : List Loc} {cells slots : Nat} {lsr : Array Slot} (hP : zP_note Inv) (hA : zLA (zw l D T B Z g) RL code 7 p s m args c) (hD : zLD (zw l D T B Z g) s room_1 (S, M) H locs cells slots) (hce : cells ≤ 1000 + i ∧ slots ≤ 20000 + 6 * i) (hX : va_X b Ln xs s s.heap) (hbl : b < s.heap.size) (hbA : ¬ B ≤ b) (hi : i + 6 ≤ Ln) (hLn : Ln ≤ 3072) (hl : lv_has lsr 7 (zll B b i)) (hI : Inv S M) (hsh : zP_shape Inv) (kk : ∀ M' H' locs' cells' slots' lsr', Inv S M' → zlS l D T B Z s S M' H' locs' cells' slots' (i + 6) → lv_has lsr' 7 (zll B b i) → W p l e room_1 s m args below meth c H' locs' cells' slots' Q (F0 m 1522 lsr' [])) : W p l e room_1 s m args below meth c H locs cells slots Q (F0 m 1183 lsr []) := by
  obtain ⟨hx, hb, -⟩ := id hA
  obtain ⟨hs1, hs2, -⟩ := hsh S M hI
  obtain ⟨z3, h3⟩ : ∃ z : Int32, z = if xs (nI i + 3).toNatClampNeg = 0 then 0 else 1 := ⟨_, rfl⟩
  have h3z : z3 = 0 ∨ z3 = 1 := by rw [h3]; split <;> simp
  obtain ⟨v, M1, M2, e1, e2, hI2⟩ := hP S M hI (xs (nI i + 1).toNatClampNeg) (xs (nI i + 2).toNatClampNeg) (z3) h3z
  refine lv_aload_n hx hb dL_law_1183 rfl (lv_at hl 3 rfl) ?_
  refine lv_aload_n hx hb dL_law_1184 rfl (lv_at hl 4 rfl) ?_
  refine lv_iload hx hb dL_law_1185 (lv_at hl 0 rfl) ?_
  refine lv_iconst (v := 1) hx hb dL_law_1187 (by decide) ?_
  refine lv_iadd hx hb dL_law_1188 ?_
  refine va_sld hx hb hX hbl hbA hD.2.1 (zl_in (k := 1) (by decide) hi hLn (by decide)) dL_law_1189 ?_
  refine lv_aload_n hx hb dL_law_1190 rfl (lv_at hl 4 rfl) ?_
  refine lv_iload hx hb dL_law_1191 (lv_at hl 0 rfl) ?_
  refine lv_iconst (v := 2) hx hb dL_law_1193 (by decide) ?_
  refine lv_iadd hx hb dL_law_1194 ?_
  refine va_sld hx hb hX hbl hbA hD.2.1 (zl_in (k := 2) (by decide) hi hLn (by decide)) dL_law_1195 ?_
  refine lv_aload_n hx hb dL_law_1196 rfl (lv_at hl 4 rfl) ?_
  refine lv_iload hx hb dL_law_1197 (lv_at hl 0 rfl) ?_
  refine lv_iconst (v := 3) hx hb dL_law_1199 (by decide) ?_
  refine lv_iadd hx hb dL_law_1200 ?_
  refine va_sld hx hb hX hbl hbA hD.2.1 (zl_in (k := 3) (by decide) hi hLn (by decide)) dL_law_1201 ?_
  refine zl_b01 (x := xs (nI i + 3).toNatClampNeg) hx hb dL_law_1202 dL_law_1205 dL_law_1206 dL_law_1209 (by decide) (by decide) h3 ?_
  refine zlV (w := zw l D T B Z g) (k := 0) (as := [.int (xs (nI i + 1).toNatClampNeg), .int (xs (nI i + 2).toNatClampNeg), .int (z3)]) (rest := []) hA hD (c_X11_note (zw l D T B Z g) S 0 _ _ _ M) e1 rfl mv_X11_note rfl hs1 zg_1139 (by decide) hl.1 (Nat.le_of_ble_eq_true rfl) dL_law_1210 (fun H locs hD => ?_)
  refine lv_aload_n hx hb dL_law_1213 rfl (lv_at hl 2 rfl) ?_
  refine lv_aload_n hx hb dL_law_1214 rfl (lv_at hl 4 rfl) ?_
  refine lv_iload hx hb dL_law_1215 (lv_at hl 0 rfl) ?_
  refine lv_iconst (v := 1) hx hb dL_law_1217 (by decide) ?_
  refine lv_iadd hx hb dL_law_1218 ?_
  refine va_sld hx hb hX hbl hbA hD.2.1 (zl_in (k := 1) (by decide) hi hLn (by decide)) dL_law_1219 ?_
  refine lv_aload_n hx hb dL_law_1220 rfl (lv_at hl 4 rfl) ?_
  refine lv_iload hx hb dL_law_1221 (lv_at hl 0 rfl) ?_
  refine lv_iconst (v := 2) hx hb dL_law_1223 (by decide) ?_
  refine lv_iadd hx hb dL_law_1224 ?_
  refine va_sld hx hb hX hbl hbA hD.2.1 (zl_in (k := 2) (by decide) hi hLn (by decide)) dL_law_1225 ?_
  refine lv_aload_n hx hb dL_law_1226 rfl (lv_at hl 4 rfl) ?_
  refine lv_iload hx hb dL_law_1227 (lv_at hl 0 rfl) ?_
  refine lv_iconst (v := 3) hx hb dL_law_1229 (by decide) ?_
  refine lv_iadd hx hb dL_law_1230 ?_
  refine va_sld hx hb hX hbl hbA hD.2.1 (zl_in (k := 3) (by decide) hi hLn (by decide)) dL_law_1231 ?_
  refine zl_b01 (x := xs (nI i + 3).toNatClampNeg) hx hb dL_law_1232 dL_law_1235 dL_law_1236 dL_law_1239 (by decide) (by decide) h3 ?_
  refine zlV (w := zw l D T B Z g) (k := 306) (as := [.int (xs (nI i + 1).toNatClampNeg), .int (xs (nI i + 2).toNatClampNeg), .int (z3)]) (rest := [.int (v)]) hA hD (c_X12_note (zw l D T B Z g) S 306 _ _ _ M1) e2 rfl mv_X12_note rfl hs2 zg_1955 (by decide) hl.1 (Nat.le_of_ble_eq_true rfl) dL_law_1240 (fun H locs hD => ?_)
  refine lv_icmp_eq (tgt := 1522) hx hb dL_law_1243 (by decide) (fun _ => ?_) (fun h => absurd rfl h)
  exact kk M2 H locs cells slots lsr hI2 ⟨g, hD, by omega, by omega⟩ hl
set_option maxHeartbeats 4000000 in
set_option maxRecDepth 100000 in
theorem zl_strike {Inv : List (Nat × Nat) → zM → Prop} {l : Launch} {D : va_G} {T : Nat → ClassId} {B : Nat} {Z : State → Prop} {p : Program} {e : Env} {s : State} {m : MethodId} {args : Array Value} {below : List Frame} {meth : Method} {c : Code} {Q : State → Prop} {b Ln i g : Nat} {xs : Nat → Int32} {S : List (Nat × Nat)} {M : zM} {H : Heap} {locs : List Loc} {cells slots : Nat} {lsr : Array Slot} (hP : zP_strike Inv) (hA : zLA (zw l D T B Z g) RL code 7 p s m args c) (hD : zLD (zw l D T B Z g) s room_1 (S, M) H locs cells slots) (hce : cells ≤ 1000 + i ∧ slots ≤ 20000 + 6 * i) (hX : va_X b Ln xs s s.heap) (hbl : b < s.heap.size) (hbA : ¬ B ≤ b) (hi : i + 6 ≤ Ln) (hLn : Ln ≤ 3072) (hl : lv_has lsr 7 (zll B b i)) (hI : Inv S M) (hsh : zP_shape Inv) (kk : ∀ M' H' locs' cells' slots' lsr', Inv S M' → zlS l D T B Z s S M' H' locs' cells' slots' (i + 6) → lv_has lsr' 7 (zll B b i) → W p l e room_1 s m args below meth c H' locs' cells' slots' Q (F0 m 1522 lsr' [])) : W p l e room_1 s m args below meth c H locs cells slots Q (F0 m 1248 lsr []) := by
  obtain ⟨hx, hb, -⟩ := id hA
  obtain ⟨hs1, hs2, -⟩ := hsh S M hI
  obtain ⟨v, M1, M2, e1, e2, hI2⟩ := hP S M hI (xs (nI i + 1).toNatClampNeg)
  refine lv_aload_n hx hb dL_law_1248 rfl (lv_at hl 3 rfl) ?_
  refine lv_aload_n hx hb dL_law_1249 rfl (lv_at hl 4 rfl) ?_
  refine lv_iload hx hb dL_law_1250 (lv_at hl 0 rfl) ?_
  refine lv_iconst (v := 1) hx hb dL_law_1252 (by decide) ?_
  refine lv_iadd hx hb dL_law_1253 ?_
  refine va_sld hx hb hX hbl hbA hD.2.1 (zl_in (k := 1) (by decide) hi hLn (by decide)) dL_law_1254 ?_
  refine zlV (w := zw l D T B Z g) (k := 0) (as := [.int (xs (nI i + 1).toNatClampNeg)]) (rest := []) hA hD (c_X11_strike (zw l D T B Z g) S 0 _ M) e1 rfl mv_X11_strike rfl hs1 zg_1148 (by decide) hl.1 (Nat.le_of_ble_eq_true rfl) dL_law_1255 (fun H locs hD => ?_)
  refine lv_aload_n hx hb dL_law_1258 rfl (lv_at hl 2 rfl) ?_
  refine lv_aload_n hx hb dL_law_1259 rfl (lv_at hl 4 rfl) ?_
  refine lv_iload hx hb dL_law_1260 (lv_at hl 0 rfl) ?_
  refine lv_iconst (v := 1) hx hb dL_law_1262 (by decide) ?_
  refine lv_iadd hx hb dL_law_1263 ?_
  refine va_sld hx hb hX hbl hbA hD.2.1 (zl_in (k := 1) (by decide) hi hLn (by decide)) dL_law_1264 ?_
  refine zlV (w := zw l D T B Z g) (k := 306) (as := [.int (xs (nI i + 1).toNatClampNeg)]) (rest := [.int (v)]) hA hD (c_X12_strike (zw l D T B Z g) S 306 _ M1) e2 rfl mv_X12_strike rfl hs2 zg_1959 (by decide) hl.1 (Nat.le_of_ble_eq_true rfl) dL_law_1265 (fun H locs hD => ?_)
  refine lv_icmp_eq (tgt := 1522) hx hb dL_law_1268 (by decide) (fun _ => ?_) (fun h => absurd rfl h)
  exact kk M2 H locs cells slots lsr hI2 ⟨g, hD, by omega, by omega⟩ hl
set_option maxHeartbeats 4000000 in
set_option maxRecDepth 100000 in
theorem zl_toldBy {Inv : List (Nat × Nat) → zM → Prop} {l : Launch} {D : va_G} {T : Nat → ClassId} {B : Nat} {Z : State → Prop} {p : Program} {e : Env} {s : State} {m : MethodId} {args : Array Value} {below : List Frame} {meth : Method} {c : Code} {Q : State → Prop} {b Ln i g : Nat} {xs : Nat → Int32} {S : List (Nat × Nat)} {M : zM} {H : Heap} {locs : List Loc} {cells slots : Nat} {lsr : Array Slot} (hP : zP_toldBy Inv) (hA : zLA (zw l D T B Z g) RL code 7 p s m args c) (hD : zLD (zw l D T B Z g) s room_1 (S, M) H locs cells slots) (hce : cells ≤ 1000 + i ∧ slots ≤ 20000 + 6 * i) (hX : va_X b Ln xs s s.heap) (hbl : b < s.heap.size) (hbA : ¬ B ≤ b) (hi : i + 6 ≤ Ln) (hLn : Ln ≤ 3072) (hl : lv_has lsr 7 (zll B b i)) (hI : Inv S M) (hsh : zP_shape Inv) (kk : ∀ M' H' locs' cells' slots' lsr', Inv S M' → zlS l D T B Z s S M' H' locs' cells' slots' (i + 6) → lv_has lsr' 7 (zll B b i) → W p l e room_1 s m args below meth c H' locs' cells' slots' Q (F0 m 1522 lsr' [])) : W p l e room_1 s m args below meth c H locs cells slots Q (F0 m 1273 lsr []) := by
  obtain ⟨hx, hb, -⟩ := id hA
  obtain ⟨hs1, hs2, -⟩ := hsh S M hI
  obtain ⟨v, M1, M2, e1, e2, hI2⟩ := hP S M hI (xs (nI i + 1).toNatClampNeg)
  refine lv_aload_n hx hb dL_law_1273 rfl (lv_at hl 3 rfl) ?_
  refine lv_aload_n hx hb dL_law_1274 rfl (lv_at hl 4 rfl) ?_
  refine lv_iload hx hb dL_law_1275 (lv_at hl 0 rfl) ?_
  refine lv_iconst (v := 1) hx hb dL_law_1277 (by decide) ?_
  refine lv_iadd hx hb dL_law_1278 ?_
  refine va_sld hx hb hX hbl hbA hD.2.1 (zl_in (k := 1) (by decide) hi hLn (by decide)) dL_law_1279 ?_
  refine zlV (w := zw l D T B Z g) (k := 0) (as := [.int (xs (nI i + 1).toNatClampNeg)]) (rest := []) hA hD (c_X11_toldBy (zw l D T B Z g) S 0 _ M) e1 rfl mv_X11_toldBy rfl hs1 zg_1152 (by decide) hl.1 (Nat.le_of_ble_eq_true rfl) dL_law_1280 (fun H locs hD => ?_)
  refine lv_aload_n hx hb dL_law_1283 rfl (lv_at hl 2 rfl) ?_
  refine lv_aload_n hx hb dL_law_1284 rfl (lv_at hl 4 rfl) ?_
  refine lv_iload hx hb dL_law_1285 (lv_at hl 0 rfl) ?_
  refine lv_iconst (v := 1) hx hb dL_law_1287 (by decide) ?_
  refine lv_iadd hx hb dL_law_1288 ?_
  refine va_sld hx hb hX hbl hbA hD.2.1 (zl_in (k := 1) (by decide) hi hLn (by decide)) dL_law_1289 ?_
  refine zlV (w := zw l D T B Z g) (k := 306) (as := [.int (xs (nI i + 1).toNatClampNeg)]) (rest := [.int (v)]) hA hD (c_X12_toldBy (zw l D T B Z g) S 306 _ M1) e2 rfl mv_X12_toldBy rfl hs2 zg_1963 (by decide) hl.1 (Nat.le_of_ble_eq_true rfl) dL_law_1290 (fun H locs hD => ?_)
  refine lv_icmp_eq (tgt := 1522) hx hb dL_law_1293 (by decide) (fun _ => ?_) (fun h => absurd rfl h)
  exact kk M2 H locs cells slots lsr hI2 ⟨g, hD, by omega, by omega⟩ hl
set_option maxHeartbeats 4000000 in
set_option maxRecDepth 100000 in
theorem zl_hours {Inv : List (Nat × Nat) → zM → Prop} {l : Launch} {D : va_G} {T : Nat → ClassId} {B : Nat} {Z : State → Prop} {p : Program} {e : Env} {s : State} {m : MethodId} {args : Array Value} {below : List Frame} {meth : Method} {c : Code} {Q : State → Prop} {b Ln i g : Nat} {xs : Nat → Int32} {S : List (Nat × Nat)} {M : zM} {H : Heap} {locs : List Loc} {cells slots : Nat} {lsr : Array Slot} (hP : zP_hours Inv) (hA : zLA (zw l D T B Z g) RL code 7 p s m args c) (hD : zLD (zw l D T B Z g) s room_1 (S, M) H locs cells slots) (hce : cells ≤ 1000 + i ∧ slots ≤ 20000 + 6 * i) (hX : va_X b Ln xs s s.heap) (hbl : b < s.heap.size) (hbA : ¬ B ≤ b) (hi : i + 6 ≤ Ln) (hLn : Ln ≤ 3072) (hl : lv_has lsr 7 (zll B b i)) (hI : Inv S M) (hsh : zP_shape Inv) (kk : ∀ M' H' locs' cells' slots' lsr', Inv S M' → zlS l D T B Z s S M' H' locs' cells' slots' (i + 6) → lv_has lsr' 7 (zll B b i) → W p l e room_1 s m args below meth c H' locs' cells' slots' Q (F0 m 1522 lsr' [])) : W p l e room_1 s m args below meth c H locs cells slots Q (F0 m 1298 lsr []) := by
  obtain ⟨hx, hb, -⟩ := id hA
  obtain ⟨hs1, hs2, -⟩ := hsh S M hI
  obtain ⟨v, M1, M2, e1, e2, hI2⟩ := hP S M hI (xs (nI i + 1).toNatClampNeg)
  refine lv_aload_n hx hb dL_law_1298 rfl (lv_at hl 3 rfl) ?_
  refine lv_aload_n hx hb dL_law_1299 rfl (lv_at hl 4 rfl) ?_
  refine lv_iload hx hb dL_law_1300 (lv_at hl 0 rfl) ?_
  refine lv_iconst (v := 1) hx hb dL_law_1302 (by decide) ?_
  refine lv_iadd hx hb dL_law_1303 ?_
  refine va_sld hx hb hX hbl hbA hD.2.1 (zl_in (k := 1) (by decide) hi hLn (by decide)) dL_law_1304 ?_
  refine zlV (w := zw l D T B Z g) (k := 0) (as := [.int (xs (nI i + 1).toNatClampNeg)]) (rest := []) hA hD (c_X11_hours (zw l D T B Z g) S 0 _ M) e1 rfl mv_X11_hours rfl hs1 zg_1156 (by decide) hl.1 (Nat.le_of_ble_eq_true rfl) dL_law_1305 (fun H locs hD => ?_)
  refine lv_aload_n hx hb dL_law_1308 rfl (lv_at hl 2 rfl) ?_
  refine lv_aload_n hx hb dL_law_1309 rfl (lv_at hl 4 rfl) ?_
  refine lv_iload hx hb dL_law_1310 (lv_at hl 0 rfl) ?_
  refine lv_iconst (v := 1) hx hb dL_law_1312 (by decide) ?_
  refine lv_iadd hx hb dL_law_1313 ?_
  refine va_sld hx hb hX hbl hbA hD.2.1 (zl_in (k := 1) (by decide) hi hLn (by decide)) dL_law_1314 ?_
  refine zlV (w := zw l D T B Z g) (k := 306) (as := [.int (xs (nI i + 1).toNatClampNeg)]) (rest := [.int (v)]) hA hD (c_X12_hours (zw l D T B Z g) S 306 _ M1) e2 rfl mv_X12_hours rfl hs2 zg_1967 (by decide) hl.1 (Nat.le_of_ble_eq_true rfl) dL_law_1315 (fun H locs hD => ?_)
  refine lv_icmp_eq (tgt := 1522) hx hb dL_law_1318 (by decide) (fun _ => ?_) (fun h => absurd rfl h)
  exact kk M2 H locs cells slots lsr hI2 ⟨g, hD, by omega, by omega⟩ hl
set_option maxHeartbeats 4000000 in
set_option maxRecDepth 100000 in
theorem zl_ask {Inv : List (Nat × Nat) → zM → Prop} {l : Launch} {D : va_G} {T : Nat → ClassId} {B : Nat} {Z : State → Prop} {p : Program} {e : Env} {s : State} {m : MethodId} {args : Array Value} {below : List Frame} {meth : Method} {c : Code} {Q : State → Prop} {b Ln i g : Nat} {xs : Nat → Int32} {S : List (Nat × Nat)} {M : zM} {H : Heap} {locs : List Loc} {cells slots : Nat} {lsr : Array Slot} (hP : zP_ask Inv) (hA : zLA (zw l D T B Z g) RL code 7 p s m args c) (hD : zLD (zw l D T B Z g) s room_1 (S, M) H locs cells slots) (hce : cells ≤ 1000 + i ∧ slots ≤ 20000 + 6 * i) (hX : va_X b Ln xs s s.heap) (hbl : b < s.heap.size) (hbA : ¬ B ≤ b) (hi : i + 6 ≤ Ln) (hLn : Ln ≤ 3072) (hl : lv_has lsr 7 (zll B b i)) (hI : Inv S M) (hsh : zP_shape Inv) (kk : ∀ M' H' locs' cells' slots' lsr', Inv S M' → zlS l D T B Z s S M' H' locs' cells' slots' (i + 6) → lv_has lsr' 7 (zll B b i) → W p l e room_1 s m args below meth c H' locs' cells' slots' Q (F0 m 1522 lsr' [])) : W p l e room_1 s m args below meth c H locs cells slots Q (F0 m 1323 lsr []) := by
  obtain ⟨hx, hb, -⟩ := id hA
  obtain ⟨hs1, hs2, -⟩ := hsh S M hI
  obtain ⟨v, M1, M2, e1, e2, hI2⟩ := hP S M hI (xs (nI i + 1).toNatClampNeg) (xs (nI i + 2).toNatClampNeg)
  refine lv_aload_n hx hb dL_law_1323 rfl (lv_at hl 3 rfl) ?_
  refine lv_aload_n hx hb dL_law_1324 rfl (lv_at hl 4 rfl) ?_
  refine lv_iload hx hb dL_law_1325 (lv_at hl 0 rfl) ?_
  refine lv_iconst (v := 1) hx hb dL_law_1327 (by decide) ?_
  refine lv_iadd hx hb dL_law_1328 ?_
  refine va_sld hx hb hX hbl hbA hD.2.1 (zl_in (k := 1) (by decide) hi hLn (by decide)) dL_law_1329 ?_
  refine lv_aload_n hx hb dL_law_1330 rfl (lv_at hl 4 rfl) ?_
  refine lv_iload hx hb dL_law_1331 (lv_at hl 0 rfl) ?_
  refine lv_iconst (v := 2) hx hb dL_law_1333 (by decide) ?_
  refine lv_iadd hx hb dL_law_1334 ?_
  refine va_sld hx hb hX hbl hbA hD.2.1 (zl_in (k := 2) (by decide) hi hLn (by decide)) dL_law_1335 ?_
  refine zlV (w := zw l D T B Z g) (k := 0) (as := [.int (xs (nI i + 1).toNatClampNeg), .int (xs (nI i + 2).toNatClampNeg)]) (rest := []) hA hD (c_X11_ask (zw l D T B Z g) S 0 _ _ M) e1 rfl mv_X11_ask rfl hs1 zg_1200 (by decide) hl.1 (Nat.le_of_ble_eq_true rfl) dL_law_1336 (fun H locs hD => ?_)
  refine lv_aload_n hx hb dL_law_1339 rfl (lv_at hl 2 rfl) ?_
  refine lv_aload_n hx hb dL_law_1340 rfl (lv_at hl 4 rfl) ?_
  refine lv_iload hx hb dL_law_1341 (lv_at hl 0 rfl) ?_
  refine lv_iconst (v := 1) hx hb dL_law_1343 (by decide) ?_
  refine lv_iadd hx hb dL_law_1344 ?_
  refine va_sld hx hb hX hbl hbA hD.2.1 (zl_in (k := 1) (by decide) hi hLn (by decide)) dL_law_1345 ?_
  refine lv_aload_n hx hb dL_law_1346 rfl (lv_at hl 4 rfl) ?_
  refine lv_iload hx hb dL_law_1347 (lv_at hl 0 rfl) ?_
  refine lv_iconst (v := 2) hx hb dL_law_1349 (by decide) ?_
  refine lv_iadd hx hb dL_law_1350 ?_
  refine va_sld hx hb hX hbl hbA hD.2.1 (zl_in (k := 2) (by decide) hi hLn (by decide)) dL_law_1351 ?_
  refine zlV (w := zw l D T B Z g) (k := 306) (as := [.int (xs (nI i + 1).toNatClampNeg), .int (xs (nI i + 2).toNatClampNeg)]) (rest := [.int (v)]) hA hD (c_X12_ask (zw l D T B Z g) S 306 _ _ M1) e2 rfl mv_X12_ask rfl hs2 zg_1987 (by decide) hl.1 (Nat.le_of_ble_eq_true rfl) dL_law_1352 (fun H locs hD => ?_)
  refine lv_icmp_eq (tgt := 1522) hx hb dL_law_1355 (by decide) (fun _ => ?_) (fun h => absurd rfl h)
  exact kk M2 H locs cells slots lsr hI2 ⟨g, hD, by omega, by omega⟩ hl
set_option maxHeartbeats 4000000 in
set_option maxRecDepth 100000 in
theorem zl_chance {Inv : List (Nat × Nat) → zM → Prop} {l : Launch} {D : va_G} {T : Nat → ClassId} {B : Nat} {Z : State → Prop} {p : Program} {e : Env} {s : State} {m : MethodId} {args : Array Value} {below : List Frame} {meth : Method} {c : Code} {Q : State → Prop} {b Ln i g : Nat} {xs : Nat → Int32} {S : List (Nat × Nat)} {M : zM} {H : Heap} {locs : List Loc} {cells slots : Nat} {lsr : Array Slot} (hP : zP_chance Inv) (hA : zLA (zw l D T B Z g) RL code 7 p s m args c) (hD : zLD (zw l D T B Z g) s room_1 (S, M) H locs cells slots) (hce : cells ≤ 1000 + i ∧ slots ≤ 20000 + 6 * i) (hX : va_X b Ln xs s s.heap) (hbl : b < s.heap.size) (hbA : ¬ B ≤ b) (hi : i + 6 ≤ Ln) (hLn : Ln ≤ 3072) (hl : lv_has lsr 7 (zll B b i)) (hI : Inv S M) (hsh : zP_shape Inv) (kk : ∀ M' H' locs' cells' slots' lsr', Inv S M' → zlS l D T B Z s S M' H' locs' cells' slots' (i + 6) → lv_has lsr' 7 (zll B b i) → W p l e room_1 s m args below meth c H' locs' cells' slots' Q (F0 m 1522 lsr' [])) : W p l e room_1 s m args below meth c H locs cells slots Q (F0 m 1360 lsr []) := by
  obtain ⟨hx, hb, -⟩ := id hA
  obtain ⟨hs1, hs2, -⟩ := hsh S M hI
  obtain ⟨v, M1, M2, e1, e2, hI2⟩ := hP S M hI (xs (nI i + 1).toNatClampNeg) (xs (nI i + 2).toNatClampNeg) (xs (nI i + 3).toNatClampNeg)
  refine lv_aload_n hx hb dL_law_1360 rfl (lv_at hl 3 rfl) ?_
  refine lv_aload_n hx hb dL_law_1361 rfl (lv_at hl 4 rfl) ?_
  refine lv_iload hx hb dL_law_1362 (lv_at hl 0 rfl) ?_
  refine lv_iconst (v := 1) hx hb dL_law_1364 (by decide) ?_
  refine lv_iadd hx hb dL_law_1365 ?_
  refine va_sld hx hb hX hbl hbA hD.2.1 (zl_in (k := 1) (by decide) hi hLn (by decide)) dL_law_1366 ?_
  refine lv_aload_n hx hb dL_law_1367 rfl (lv_at hl 4 rfl) ?_
  refine lv_iload hx hb dL_law_1368 (lv_at hl 0 rfl) ?_
  refine lv_iconst (v := 2) hx hb dL_law_1370 (by decide) ?_
  refine lv_iadd hx hb dL_law_1371 ?_
  refine va_sld hx hb hX hbl hbA hD.2.1 (zl_in (k := 2) (by decide) hi hLn (by decide)) dL_law_1372 ?_
  refine lv_aload_n hx hb dL_law_1373 rfl (lv_at hl 4 rfl) ?_
  refine lv_iload hx hb dL_law_1374 (lv_at hl 0 rfl) ?_
  refine lv_iconst (v := 3) hx hb dL_law_1376 (by decide) ?_
  refine lv_iadd hx hb dL_law_1377 ?_
  refine va_sld hx hb hX hbl hbA hD.2.1 (zl_in (k := 3) (by decide) hi hLn (by decide)) dL_law_1378 ?_
  refine zlV (w := zw l D T B Z g) (k := 0) (as := [.int (xs (nI i + 1).toNatClampNeg), .int (xs (nI i + 2).toNatClampNeg), .int (xs (nI i + 3).toNatClampNeg)]) (rest := []) hA hD (c_X11_chance (zw l D T B Z g) S 0 _ _ _ M) e1 rfl mv_X11_chance rfl hs1 zg_1212 (by decide) hl.1 (Nat.le_of_ble_eq_true rfl) dL_law_1379 (fun H locs hD => ?_)
  refine lv_aload_n hx hb dL_law_1382 rfl (lv_at hl 2 rfl) ?_
  refine lv_aload_n hx hb dL_law_1383 rfl (lv_at hl 4 rfl) ?_
  refine lv_iload hx hb dL_law_1384 (lv_at hl 0 rfl) ?_
  refine lv_iconst (v := 1) hx hb dL_law_1386 (by decide) ?_
  refine lv_iadd hx hb dL_law_1387 ?_
  refine va_sld hx hb hX hbl hbA hD.2.1 (zl_in (k := 1) (by decide) hi hLn (by decide)) dL_law_1388 ?_
  refine lv_aload_n hx hb dL_law_1389 rfl (lv_at hl 4 rfl) ?_
  refine lv_iload hx hb dL_law_1390 (lv_at hl 0 rfl) ?_
  refine lv_iconst (v := 2) hx hb dL_law_1392 (by decide) ?_
  refine lv_iadd hx hb dL_law_1393 ?_
  refine va_sld hx hb hX hbl hbA hD.2.1 (zl_in (k := 2) (by decide) hi hLn (by decide)) dL_law_1394 ?_
  refine lv_aload_n hx hb dL_law_1395 rfl (lv_at hl 4 rfl) ?_
  refine lv_iload hx hb dL_law_1396 (lv_at hl 0 rfl) ?_
  refine lv_iconst (v := 3) hx hb dL_law_1398 (by decide) ?_
  refine lv_iadd hx hb dL_law_1399 ?_
  refine va_sld hx hb hX hbl hbA hD.2.1 (zl_in (k := 3) (by decide) hi hLn (by decide)) dL_law_1400 ?_
  refine zlV (w := zw l D T B Z g) (k := 306) (as := [.int (xs (nI i + 1).toNatClampNeg), .int (xs (nI i + 2).toNatClampNeg), .int (xs (nI i + 3).toNatClampNeg)]) (rest := [.int (v)]) hA hD (c_X12_chance (zw l D T B Z g) S 306 _ _ _ M1) e2 rfl mv_X12_chance rfl hs2 zg_1995 (by decide) hl.1 (Nat.le_of_ble_eq_true rfl) dL_law_1401 (fun H locs hD => ?_)
  refine lv_icmp_eq (tgt := 1522) hx hb dL_law_1404 (by decide) (fun _ => ?_) (fun h => absurd rfl h)
  exact kk M2 H locs cells slots lsr hI2 ⟨g, hD, by omega, by omega⟩ hl
set_option maxHeartbeats 4000000 in
set_option maxRecDepth 100000 in
theorem zl_tried {Inv : List (Nat × Nat) → zM → Prop} {l : Launch} {D : va_G} {T : Nat → ClassId} {B : Nat} {Z : State → Prop} {p : Program} {e : Env} {s : State} {m : MethodId} {args : Array Value} {below : List Frame} {meth : Method} {c : Code} {Q : State → Prop} {b Ln i g : Nat} {xs : Nat → Int32} {S : List (Nat × Nat)} {M : zM} {H : Heap} {locs : List Loc} {cells slots : Nat} {lsr : Array Slot} (hP : zP_tried Inv) (hA : zLA (zw l D T B Z g) RL code 7 p s m args c) (hD : zLD (zw l D T B Z g) s room_1 (S, M) H locs cells slots) (hce : cells ≤ 1000 + i ∧ slots ≤ 20000 + 6 * i) (hX : va_X b Ln xs s s.heap) (hbl : b < s.heap.size) (hbA : ¬ B ≤ b) (hi : i + 6 ≤ Ln) (hLn : Ln ≤ 3072) (hl : lv_has lsr 7 (zll B b i)) (hI : Inv S M) (hsh : zP_shape Inv) (kk : ∀ M' H' locs' cells' slots' lsr', Inv S M' → zlS l D T B Z s S M' H' locs' cells' slots' (i + 6) → lv_has lsr' 7 (zll B b i) → W p l e room_1 s m args below meth c H' locs' cells' slots' Q (F0 m 1522 lsr' [])) : W p l e room_1 s m args below meth c H locs cells slots Q (F0 m 1409 lsr []) := by
  obtain ⟨hx, hb, -⟩ := id hA
  obtain ⟨hs1, hs2, -⟩ := hsh S M hI
  obtain ⟨v, M1, M2, e1, e2, hI2⟩ := hP S M hI (xs (nI i + 1).toNatClampNeg) (xs (nI i + 2).toNatClampNeg) (xs (nI i + 3).toNatClampNeg)
  refine lv_aload_n hx hb dL_law_1409 rfl (lv_at hl 3 rfl) ?_
  refine lv_aload_n hx hb dL_law_1410 rfl (lv_at hl 4 rfl) ?_
  refine lv_iload hx hb dL_law_1411 (lv_at hl 0 rfl) ?_
  refine lv_iconst (v := 1) hx hb dL_law_1413 (by decide) ?_
  refine lv_iadd hx hb dL_law_1414 ?_
  refine va_sld hx hb hX hbl hbA hD.2.1 (zl_in (k := 1) (by decide) hi hLn (by decide)) dL_law_1415 ?_
  refine lv_aload_n hx hb dL_law_1416 rfl (lv_at hl 4 rfl) ?_
  refine lv_iload hx hb dL_law_1417 (lv_at hl 0 rfl) ?_
  refine lv_iconst (v := 2) hx hb dL_law_1419 (by decide) ?_
  refine lv_iadd hx hb dL_law_1420 ?_
  refine va_sld hx hb hX hbl hbA hD.2.1 (zl_in (k := 2) (by decide) hi hLn (by decide)) dL_law_1421 ?_
  refine lv_aload_n hx hb dL_law_1422 rfl (lv_at hl 4 rfl) ?_
  refine lv_iload hx hb dL_law_1423 (lv_at hl 0 rfl) ?_
  refine lv_iconst (v := 3) hx hb dL_law_1425 (by decide) ?_
  refine lv_iadd hx hb dL_law_1426 ?_
  refine va_sld hx hb hX hbl hbA hD.2.1 (zl_in (k := 3) (by decide) hi hLn (by decide)) dL_law_1427 ?_
  refine zlV (w := zw l D T B Z g) (k := 0) (as := [.int (xs (nI i + 1).toNatClampNeg), .int (xs (nI i + 2).toNatClampNeg), .int (xs (nI i + 3).toNatClampNeg)]) (rest := []) hA hD (c_X11_tried (zw l D T B Z g) S 0 _ _ _ M) e1 rfl mv_X11_tried rfl hs1 zg_1216 (by decide) hl.1 (Nat.le_of_ble_eq_true rfl) dL_law_1428 (fun H locs hD => ?_)
  refine lv_aload_n hx hb dL_law_1431 rfl (lv_at hl 2 rfl) ?_
  refine lv_aload_n hx hb dL_law_1432 rfl (lv_at hl 4 rfl) ?_
  refine lv_iload hx hb dL_law_1433 (lv_at hl 0 rfl) ?_
  refine lv_iconst (v := 1) hx hb dL_law_1435 (by decide) ?_
  refine lv_iadd hx hb dL_law_1436 ?_
  refine va_sld hx hb hX hbl hbA hD.2.1 (zl_in (k := 1) (by decide) hi hLn (by decide)) dL_law_1437 ?_
  refine lv_aload_n hx hb dL_law_1438 rfl (lv_at hl 4 rfl) ?_
  refine lv_iload hx hb dL_law_1439 (lv_at hl 0 rfl) ?_
  refine lv_iconst (v := 2) hx hb dL_law_1441 (by decide) ?_
  refine lv_iadd hx hb dL_law_1442 ?_
  refine va_sld hx hb hX hbl hbA hD.2.1 (zl_in (k := 2) (by decide) hi hLn (by decide)) dL_law_1443 ?_
  refine lv_aload_n hx hb dL_law_1444 rfl (lv_at hl 4 rfl) ?_
  refine lv_iload hx hb dL_law_1445 (lv_at hl 0 rfl) ?_
  refine lv_iconst (v := 3) hx hb dL_law_1447 (by decide) ?_
  refine lv_iadd hx hb dL_law_1448 ?_
  refine va_sld hx hb hX hbl hbA hD.2.1 (zl_in (k := 3) (by decide) hi hLn (by decide)) dL_law_1449 ?_
  refine zlV (w := zw l D T B Z g) (k := 306) (as := [.int (xs (nI i + 1).toNatClampNeg), .int (xs (nI i + 2).toNatClampNeg), .int (xs (nI i + 3).toNatClampNeg)]) (rest := [.int (v)]) hA hD (c_X12_tried (zw l D T B Z g) S 306 _ _ _ M1) e2 rfl mv_X12_tried rfl hs2 zg_1999 (by decide) hl.1 (Nat.le_of_ble_eq_true rfl) dL_law_1450 (fun H locs hD => ?_)
  refine lv_icmp_eq (tgt := 1522) hx hb dL_law_1453 (by decide) (fun _ => ?_) (fun h => absurd rfl h)
  exact kk M2 H locs cells slots lsr hI2 ⟨g, hD, by omega, by omega⟩ hl
set_option maxHeartbeats 4000000 in
set_option maxRecDepth 100000 in
theorem zl_undo {Inv : List (Nat × Nat) → zM → Prop} {l : Launch} {D : va_G} {T : Nat → ClassId} {B : Nat} {Z : State → Prop} {p : Program} {e : Env} {s : State} {m : MethodId} {args : Array Value} {below : List Frame} {meth : Method} {c : Code} {Q : State → Prop} {b Ln i g : Nat} {xs : Nat → Int32} {S : List (Nat × Nat)} {M : zM} {H : Heap} {locs : List Loc} {cells slots : Nat} {lsr : Array Slot} (hP : zP_undo Inv) (hA : zLA (zw l D T B Z g) RL code 7 p s m args c) (hD : zLD (zw l D T B Z g) s room_1 (S, M) H locs cells slots) (hce : cells ≤ 1000 + i ∧ slots ≤ 20000 + 6 * i) (hX : va_X b Ln xs s s.heap) (hbl : b < s.heap.size) (hbA : ¬ B ≤ b) (hi : i + 6 ≤ Ln) (hLn : Ln ≤ 3072) (hl : lv_has lsr 7 (zll B b i)) (hI : Inv S M) (hsh : zP_shape Inv) (kk : ∀ M' H' locs' cells' slots' lsr', Inv S M' → zlS l D T B Z s S M' H' locs' cells' slots' (i + 6) → lv_has lsr' 7 (zll B b i) → W p l e room_1 s m args below meth c H' locs' cells' slots' Q (F0 m 1522 lsr' [])) : W p l e room_1 s m args below meth c H locs cells slots Q (F0 m 1458 lsr []) := by
  obtain ⟨hx, hb, -⟩ := id hA
  obtain ⟨hs1, hs2, -⟩ := hsh S M hI
  obtain ⟨v, M1, M2, e1, e2, hI2⟩ := hP S M hI 
  refine lv_aload_n hx hb dL_law_1458 rfl (lv_at hl 3 rfl) ?_
  refine zlV (w := zw l D T B Z g) (k := 0) (as := []) (rest := []) hA hD (c_X11_undo (zw l D T B Z g) S 0  M) e1 rfl mv_X11_undo rfl hs1 zg_1225 (by decide) hl.1 (Nat.le_of_ble_eq_true rfl) dL_law_1459 (fun H locs hD => ?_)
  refine lv_aload_n hx hb dL_law_1462 rfl (lv_at hl 2 rfl) ?_
  refine zlV (w := zw l D T B Z g) (k := 306) (as := []) (rest := [.int (v)]) hA hD (c_X12_undo (zw l D T B Z g) S 306  M1) e2 rfl mv_X12_undo rfl hs2 zg_2003 (by decide) hl.1 (Nat.le_of_ble_eq_true rfl) dL_law_1463 (fun H locs hD => ?_)
  refine lv_icmp_eq (tgt := 1522) hx hb dL_law_1466 (by decide) (fun _ => ?_) (fun h => absurd rfl h)
  exact kk M2 H locs cells slots lsr hI2 ⟨g, hD, by omega, by omega⟩ hl
set_option maxHeartbeats 4000000 in
set_option maxRecDepth 100000 in
theorem zl_keep {Inv : List (Nat × Nat) → zM → Prop} {l : Launch} {D : va_G} {T : Nat → ClassId} {B : Nat} {Z : State → Prop} {p : Program} {e : Env} {s : State} {m : MethodId} {args : Array Value} {below : List Frame} {meth : Method} {c : Code} {Q : State → Prop} {b Ln i g : Nat} {xs : Nat → Int32} {S : List (Nat × Nat)} {M : zM} {H : Heap} {locs : List Loc} {cells slots : Nat} {lsr : Array Slot} (hP : zP_keep Inv) (hA : zLA (zw l D T B Z g) RL code 7 p s m args c) (hD : zLD (zw l D T B Z g) s room_1 (S, M) H locs cells slots) (hce : cells ≤ 1000 + i ∧ slots ≤ 20000 + 6 * i) (hX : va_X b Ln xs s s.heap) (hbl : b < s.heap.size) (hbA : ¬ B ≤ b) (hi : i + 6 ≤ Ln) (hLn : Ln ≤ 3072) (hl : lv_has lsr 7 (zll B b i)) (hI : Inv S M) (hsh : zP_shape Inv) (kk : ∀ M' H' locs' cells' slots' lsr', Inv S M' → zlS l D T B Z s S M' H' locs' cells' slots' (i + 6) → lv_has lsr' 7 (zll B b i) → W p l e room_1 s m args below meth c H' locs' cells' slots' Q (F0 m 1522 lsr' [])) : W p l e room_1 s m args below meth c H locs cells slots Q (F0 m 1471 lsr []) := by
  obtain ⟨hx, hb, -⟩ := id hA
  obtain ⟨hs1, hs2, -⟩ := hsh S M hI
  obtain ⟨v, M1, M2, e1, e2, hI2⟩ := hP S M hI 
  refine lv_aload_n hx hb dL_law_1471 rfl (lv_at hl 3 rfl) ?_
  refine zlV (w := zw l D T B Z g) (k := 0) (as := []) (rest := []) hA hD (c_X11_keep (zw l D T B Z g) S 0  M) e1 rfl mv_X11_keep rfl hs1 zg_1233 (by decide) hl.1 (Nat.le_of_ble_eq_true rfl) dL_law_1472 (fun H locs hD => ?_)
  refine lv_aload_n hx hb dL_law_1475 rfl (lv_at hl 2 rfl) ?_
  refine zlV (w := zw l D T B Z g) (k := 306) (as := []) (rest := [.int (v)]) hA hD (c_X12_keep (zw l D T B Z g) S 306  M1) e2 rfl mv_X12_keep rfl hs2 zg_2007 (by decide) hl.1 (Nat.le_of_ble_eq_true rfl) dL_law_1476 (fun H locs hD => ?_)
  refine lv_icmp_eq (tgt := 1522) hx hb dL_law_1479 (by decide) (fun _ => ?_) (fun h => absurd rfl h)
  exact kk M2 H locs cells slots lsr hI2 ⟨g, hD, by omega, by omega⟩ hl
set_option maxHeartbeats 4000000 in
set_option maxRecDepth 100000 in
theorem zl_back {Inv : List (Nat × Nat) → zM → Prop} {l : Launch} {D : va_G} {T : Nat → ClassId} {B : Nat} {Z : State → Prop} {p : Program} {e : Env} {s : State} {m : MethodId} {args : Array Value} {below : List Frame} {meth : Method} {c : Code} {Q : State → Prop} {b Ln i g : Nat} {xs : Nat → Int32} {S : List (Nat × Nat)} {M : zM} {H : Heap} {locs : List Loc} {cells slots : Nat} {lsr : Array Slot} (hP : zP_back Inv) (hA : zLA (zw l D T B Z g) RL code 7 p s m args c) (hD : zLD (zw l D T B Z g) s room_1 (S, M) H locs cells slots) (hce : cells ≤ 1000 + i ∧ slots ≤ 20000 + 6 * i) (hX : va_X b Ln xs s s.heap) (hbl : b < s.heap.size) (hbA : ¬ B ≤ b) (hi : i + 6 ≤ Ln) (hLn : Ln ≤ 3072) (hl : lv_has lsr 7 (zll B b i)) (hI : Inv S M) (hsh : zP_shape Inv) (kk : ∀ M' H' locs' cells' slots' lsr', Inv S M' → zlS l D T B Z s S M' H' locs' cells' slots' (i + 6) → lv_has lsr' 7 (zll B b i) → W p l e room_1 s m args below meth c H' locs' cells' slots' Q (F0 m 1522 lsr' [])) : W p l e room_1 s m args below meth c H locs cells slots Q (F0 m 1484 lsr []) := by
  obtain ⟨hx, hb, -⟩ := id hA
  obtain ⟨hs1, hs2, -⟩ := hsh S M hI
  obtain ⟨v, M1, M2, e1, e2, hI2⟩ := hP S M hI 
  refine lv_aload_n hx hb dL_law_1484 rfl (lv_at hl 3 rfl) ?_
  refine zlV (w := zw l D T B Z g) (k := 0) (as := []) (rest := []) hA hD (c_X11_back (zw l D T B Z g) S 0  M) e1 rfl mv_X11_back rfl hs1 zg_1237 (by decide) hl.1 (Nat.le_of_ble_eq_true rfl) dL_law_1485 (fun H locs hD => ?_)
  refine lv_aload_n hx hb dL_law_1488 rfl (lv_at hl 2 rfl) ?_
  refine zlV (w := zw l D T B Z g) (k := 306) (as := []) (rest := [.int (v)]) hA hD (c_X12_back (zw l D T B Z g) S 306  M1) e2 rfl mv_X12_back rfl hs2 zg_2011 (by decide) hl.1 (Nat.le_of_ble_eq_true rfl) dL_law_1489 (fun H locs hD => ?_)
  refine lv_icmp_eq (tgt := 1522) hx hb dL_law_1492 (by decide) (fun _ => ?_) (fun h => absurd rfl h)
  exact kk M2 H locs cells slots lsr hI2 ⟨g, hD, by omega, by omega⟩ hl
set_option maxHeartbeats 4000000 in
set_option maxRecDepth 100000 in
theorem zl_count {Inv : List (Nat × Nat) → zM → Prop} {l : Launch} {D : va_G} {T : Nat → ClassId} {B : Nat} {Z : State → Prop} {p : Program} {e : Env} {s : State} {m : MethodId} {args : Array Value} {below : List Frame} {meth : Method} {c : Code} {Q : State → Prop} {b Ln i g : Nat} {xs : Nat → Int32} {S : List (Nat × Nat)} {M : zM} {H : Heap} {locs : List Loc} {cells slots : Nat} {lsr : Array Slot} (hP : zP_count Inv) (hA : zLA (zw l D T B Z g) RL code 7 p s m args c) (hD : zLD (zw l D T B Z g) s room_1 (S, M) H locs cells slots) (hce : cells ≤ 1000 + i ∧ slots ≤ 20000 + 6 * i) (hX : va_X b Ln xs s s.heap) (hbl : b < s.heap.size) (hbA : ¬ B ≤ b) (hi : i + 6 ≤ Ln) (hLn : Ln ≤ 3072) (hl : lv_has lsr 7 (zll B b i)) (hI : Inv S M) (hsh : zP_shape Inv) (kk : ∀ M' H' locs' cells' slots' lsr', Inv S M' → zlS l D T B Z s S M' H' locs' cells' slots' (i + 6) → lv_has lsr' 7 (zll B b i) → W p l e room_1 s m args below meth c H' locs' cells' slots' Q (F0 m 1522 lsr' [])) : W p l e room_1 s m args below meth c H locs cells slots Q (F0 m 1497 lsr []) := by
  obtain ⟨hx, hb, -⟩ := id hA
  obtain ⟨hs1, hs2, -⟩ := hsh S M hI
  obtain ⟨v, M2, e1, e2, hI2⟩ := hP S M hI (xs (nI i + 1).toNatClampNeg)
  refine lv_aload_n hx hb dL_law_1497 rfl (lv_at hl 3 rfl) ?_
  refine lv_aload_n hx hb dL_law_1498 rfl (lv_at hl 4 rfl) ?_
  refine lv_iload hx hb dL_law_1499 (lv_at hl 0 rfl) ?_
  refine lv_iconst (v := 1) hx hb dL_law_1501 (by decide) ?_
  refine lv_iadd hx hb dL_law_1502 ?_
  refine va_sld hx hb hX hbl hbA hD.2.1 (zl_in (k := 1) (by decide) hi hLn (by decide)) dL_law_1503 ?_
  refine zlV (w := zw l D T B Z g) (k := 0) (as := [.int (xs (nI i + 1).toNatClampNeg)]) (rest := []) hA hD (c_X11_count (zw l D T B Z g) S 0 _ M) e1 rfl mv_X11_count rfl hs1 zg_1241 (by decide) hl.1 (Nat.le_of_ble_eq_true rfl) dL_law_1504 (fun H locs hD => ?_)
  refine lv_aload_n hx hb dL_law_1507 rfl (lv_at hl 2 rfl) ?_
  refine lv_aload_n hx hb dL_law_1508 rfl (lv_at hl 4 rfl) ?_
  refine lv_iload hx hb dL_law_1509 (lv_at hl 0 rfl) ?_
  refine lv_iconst (v := 1) hx hb dL_law_1511 (by decide) ?_
  refine lv_iadd hx hb dL_law_1512 ?_
  refine va_sld hx hb hX hbl hbA hD.2.1 (zl_in (k := 1) (by decide) hi hLn (by decide)) dL_law_1513 ?_
  refine zlV (w := zw l D T B Z g) (k := 306) (as := [.int (xs (nI i + 1).toNatClampNeg)]) (rest := [.int (v)]) hA hD (c_X12_count (zw l D T B Z g) S 306 _ M) e2 rfl mv_X12_count rfl hs2 zg_2015 (by decide) hl.1 (Nat.le_of_ble_eq_true rfl) dL_law_1514 (fun H locs hD => ?_)
  refine lv_icmp_eq (tgt := 1522) hx hb dL_law_1517 (by decide) (fun _ => ?_) (fun h => absurd rfl h)
  exact kk M2 H locs cells slots lsr hI2 ⟨g, hD, by omega, by omega⟩ hl
