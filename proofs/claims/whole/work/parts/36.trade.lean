/-! DayOpeners.trade and the law's own trade, where it throws and where it doesn't -/
def zIO : String := "java/lang/IndexOutOfBoundsException"
def zNS : String := "java/util/NoSuchElementException"
def zNest2 : Cond → Bool := fun w => match w with
  | .castable .. => true
  | .declares _ => true
  | _ => false
def zEB : List Cond := lw_tbl.filter zNest2
theorem zEB_warm {s U : State} (hW : s.WarmedH U.vm) (h : ∀ x ∈ zEB, va_Nw x s) : ∀ x ∈ zEB, va_Nw x U := by
  intro x hx
  have h1 := h x hx
  have h2 := (List.mem_filter.mp hx).2
  cases x <;> first | exact va_Nw.warmC hW h1 | exact va_Nw.warmD hW h1 | (simp [zNest2] at h2)
theorem zEB_use {s : State} {args : Array Value} (h : ∀ x ∈ zEB, va_Nw x s) : ∀ x ∈ zEB, x.before args s = true := by
  intro x hx
  have h1 := h x hx
  have h2 := (List.mem_filter.mp hx).2
  cases x <;> first | exact va_Nw.use rfl h1 | (simp [zNest2] at h2)
def zEX (w : zWd) : Prop := ∀ s : State, w.2.2.2.2.1 s → (∀ x ∈ zEB, va_Nw x s) ∧ va_Nc zNS zIO s ∧ vx_Zq Bundle.tN "UNASSIGNED_STACK" Bundle.steD (fun q => w.2.2.2.1 ≤ q) s s.heap ∧ vx_Zq Bundle.tN "SUPPRESSED_SENTINEL" Bundle.listD (fun q => w.2.2.2.1 ≤ q) s s.heap
def zXN : List String := ["java/lang/RuntimeException", "java/lang/Exception"]
set_option maxRecDepth 100000 in
theorem zx_io : ∀ x ∈ (vx_at0 RX11 132 zIO zXN).filter goodWord, x ∈ zG := by decide +kernel
set_option maxRecDepth 100000 in
theorem zx_ns : ∀ x ∈ (vx_at0 RX11 153 zNS zXN).filter goodWord, x ∈ zG := by decide +kernel
set_option maxRecDepth 100000 in
theorem zx_io2 : ∀ x ∈ (vx_at0 RX11 132 zIO zXN).filter (fun w => !goodWord w), x ∈ zEB := by decide +kernel
set_option maxRecDepth 100000 in
theorem zx_ns2 : ∀ x ∈ (vx_at0 RX11 153 zNS zXN).filter (fun w => !goodWord w), x ∈ zEB := by decide +kernel
set_option maxRecDepth 100000 in
theorem zx_io3 : ∀ x ∈ Cond.classLink RX11 130 zIO :: Cond.initialized zIO :: vx_at0 RX11 132 zIO zXN, vx_ot x = true := by decide +kernel
set_option maxRecDepth 100000 in
theorem zx_ns3 : ∀ x ∈ Cond.classLink RX11 151 zNS :: Cond.initialized zNS :: vx_at0 RX11 153 zNS zXN, vx_ot x = true := by decide +kernel
def zXC (w : zWd) (σ : zH) (nm : String) : String → State → State → Prop := fun E st t => E = nm ∧ va_P w.2.1 vwCl (zW w.2.2.2.1 w.2.2.1 σ) t.heap ∧ w.2.2.2.1 + σ.1.length + w.2.2.2.2.2 ≤ t.heap.size ∧ va_F (fun q => w.2.2.2.1 ≤ q) st t
def zT0 (S : List (Nat × Nat)) (M : zM) (p0 : Nat) (x1 v : Int32) : Prop := S[p0]? = some (11, 14) ∧ ∃ r1, M.2.2 p0 3 = some r1 ∧ S[r1]? = some (10, 18) ∧ gX10_hasTrade S r1 x1 M = some v
section ZTR
variable {w : zWd} {S : List (Nat × Nat)} {M : zM} {p0 : Nat} {x1 x2 v : Int32}
/-- as far as the answer of hasTrade -/
theorem x_head {p : Program} {e : Env} {R : Room} {s : State} {m : MethodId} {args : Array Value} {below : List Frame} {meth : Method} {c : Code} {Q : State → Prop} {lsr : Array Slot} (hR : 2 ≤ R.frames ∧ 120 ≤ R.locals) (h : zT0 S M p0 x1 v) (hA : zLA w RX11 cX11_trade 3 p s m args c) (hD : zLD w s R (S, M) s.heap [] 0 0) (hl : lv_has lsr 3 [(0, .ref (w.2.2.2.1 + p0)), (1, .int x1), (2, .int x2)])
    (kk : ∀ H' locs', zLD w s R (S, M) H' locs' 0 0 → W p w.1 e R s m args below meth c H' locs' 0 0 Q (F0 m 8 lsr [.int v])) : W p w.1 e R s m args below meth c s.heap [] 0 0 Q (F0 m 0 lsr []) := by
  obtain ⟨h0, r1, h1, h2, h3⟩ := h
  obtain ⟨hx, hb, hml, hown, hG, hK, -⟩ := id hA
  have hP := hD.1
  have he := zW_get (B := w.2.2.2.1) (T := w.2.2.1) (σ := (S, M)) h0
  rw [zE_obj zc11.2.2.2.2.1] at he
  have hvv : ((List.range 14).map (fun i => zfv w.2.2.2.1 M p0 (zTyp 11 i) i))[3]? = some (.ref (w.2.2.2.1 + r1)) := by
    show some (zfv w.2.2.2.1 M p0 (zTyp 11 3) 3) = _
    have e1 : zk (zTyp 11 3) = 2 := rfl
    simp only [zfv, e1, h1]
    rfl
  refine lv_aload_n hx hb dX11_trade_0 rfl (lv_at hl 0 rfl) ?_
  refine va_get hx hb hG zc11.2.1 hown hK hP p0 he zc11.1 3 (by decide) (hG _ zg_563) (fun x h => h) hvv dX11_trade_1 ?_
  refine lv_iload_n hx hb dX11_trade_4 rfl (lv_at hl 1 rfl) ?_
  refine zlV (as := [.int x1]) (rest := []) hA hD (c_X10_hasTrade w S r1 x1 M) h3 rfl mv_X10_hasTrade rfl h2 zg_846 (by omega) hl.1 (Nat.zero_le 8) dX11_trade_5 (fun H' locs' hD' => ?_)
  exact kk H' locs' hD'
theorem x_ok (hok : zOK w) {r : Int32 × zM} (hr : gX11_trade S p0 x1 x2 M = some r) : vx_Met w.1 yX11_trade (.code yX11_trade cX11_trade 3 (some .int) :: zG) { frames := 10, cells := 0, slots := 0, locals := 600 } (zP w [.ref p0, .int x1, .int x2] (S, M)) (zQ w (zfIM S r)) (fun _ _ _ => False) 0 0 (fun q => w.2.2.2.1 ≤ q) := by
  refine vx_ofW (cc := cX11_trade) (maxL := 3) (ret := some .int) (ws' := zG) (by decide) rfl ?_
  intro p e s m args below meth c s₁ B hml hno hv
  obtain ⟨rfl, hsz, hP, hK, hN, hZ⟩ := hv
  have hts := atoms_spec (ws := .code yX11_trade cX11_trade 3 (some .int) :: zG) B.pre
  rw [lg_entry_eq]
  have hl := lv_entry (([.ref p0, .int x1, .int x2] : List Value).map (zv w.2.2.2.1)) (n := 3) (Nat.le_of_ble_eq_true rfl)
  rw [zls_args] at hl
  refine vx_ret ?_
  have K := a_X11_trade w S p0 x1 x2 M r hr p e (headSpec (.code yX11_trade cX11_trade 3 (some .int) :: zG) { frames := 10, cells := 0, slots := 0, locals := 600 }).room s m _ below meth c s.heap [] 0 0 S.length (zsl S) _ ⟨B.exec, B.bytes, B.returns, hml, findClass_of_methodNamed B.named, B.notSynchronized, fun x hx => hts x (List.mem_cons_of_mem _ hx), (name_of_methodNamed B.named B.method).1, hK, hN, hZ, hok, by show 3 ≤ 10; omega, by show 60 * 3 ≤ 600; omega, by rw [hsz]; omega⟩ ⟨hP, va_S.rf, hsz, by show 0 + S.length = S.length; omega, by show 0 + zsl S = zsl S; omega, Nat.zero_le _, Nat.zero_le _, by show 0 + S.length = S.length; omega, by show 0 + zsl S = zsl S; omega, Or.inr rfl⟩ hl
  exact K
theorem x_t1 (hok : zOK w) (hst : w.1.stackTraces = false) (hex : zEX w) (h : zT0 S M p0 x1 0) : vx_Met w.1 yX11_trade (.code yX11_trade cX11_trade 3 (some .int) :: zG) { frames := 10, cells := 1, slots := 6, locals := 600 } (zP w [.ref p0, .int x1, .int x2] (S, M)) (fun _ _ _ _ => False) (zXC w (S, M) zIO) 1 6 (fun q => w.2.2.2.1 ≤ q) := by
  refine vx_ofW (cc := cX11_trade) (maxL := 3) (ret := some .int) (ws' := zG) (by decide) rfl ?_
  intro p e s m args below meth c s₁ B hml hno hv
  obtain ⟨rfl, hsz, hP, hK, hN, hZ⟩ := hv
  have hts := atoms_spec (ws := .code yX11_trade cX11_trade 3 (some .int) :: zG) B.pre
  rw [lg_entry_eq]
  have hl := lv_entry (([.ref p0, .int x1, .int x2] : List Value).map (zv w.2.2.2.1)) (n := 3) (Nat.le_of_ble_eq_true rfl)
  have hG : ∀ x ∈ zG, x.before _ s = true := fun x hx => hts x (List.mem_cons_of_mem _ hx)
  have hA : zLA w RX11 cX11_trade 3 p s m _ c := ⟨B.exec, B.bytes, hml, findClass_of_methodNamed B.named, hG, hK, hN, hZ, hok, by rw [hsz]; omega⟩
  refine x_head ⟨by show 2 ≤ 10; omega, by show 120 ≤ 600; omega⟩ h hA ⟨hP, va_S.rf, hsz, Nat.zero_le _, Nat.zero_le _⟩ hl (fun H' locs' hD' => ?_)
  refine lv_if_ne (tgt := 19) B.exec B.bytes dX11_trade_8 (by decide) (fun h => absurd rfl h) (fun _ => ?_)
  obtain ⟨k1, k3, k4, k5⟩ := hex s hZ
  refine vx_throw0 (ik := 130) (ic := 132) (cls := zIO) (names := zXN) B.exec B.bytes hst (findClass_of_methodNamed B.named) (by decide +kernel) (by decide +kernel) (hG _ zg_1259) (hG _ zg_23) (vx_hat (B := zEB) (fun x hx => hG x (zx_io x hx)) zx_io2 (zEB_use k1)) zx_io3 k4 k5 hD'.2.1 (hl.1.trans hml.symm) dX11_trade_11 dX11_trade_14 dX11_trade_15 dX11_trade_18 (fun x hx => (hno x hx).elim) (by show 2 + 3 < 10; omega) (by show 0 + (13 * (2 + 1) + 42) ≤ 600; omega) (by show 0 + 1 ≤ 1; omega) (by show 0 + 6 ≤ 6; omega) B.notSynchronized ?_ hD'.2.1.2.2 (Nat.le_refl _) (Nat.le_refl _)
  intro t hal hle hsame
  obtain ⟨hP', hS', hsz', -⟩ := hD'
  refine ⟨rfl, hP'.kept (fun k q hq => hsame _ ((hP' k q hq).lt)), by rw [← hsz']; exact hle, Nat.le_trans hS'.1 hle, fun q hq hn => ?_⟩
  rw [hsame q (Nat.lt_of_lt_of_le hq hS'.1)]
  exact hS'.2.1 q hq hn
theorem x_t2 (hok : zOK w) (hst : w.1.stackTraces = false) (hex : zEX w) (h : zT0 S M p0 x1 v) (hv : ¬ v = 0) (hx2 : x2.toInt < 0 ∨ 4 < x2.toInt) : vx_Met w.1 yX11_trade (.code yX11_trade cX11_trade 3 (some .int) :: zG) { frames := 10, cells := 1, slots := 6, locals := 600 } (zP w [.ref p0, .int x1, .int x2] (S, M)) (fun _ _ _ _ => False) (zXC w (S, M) zNS) 1 6 (fun q => w.2.2.2.1 ≤ q) := by
  refine vx_ofW (cc := cX11_trade) (maxL := 3) (ret := some .int) (ws' := zG) (by decide) rfl ?_
  intro p e s m args below meth c s₁ B hml hno hvv
  obtain ⟨rfl, hsz, hP, hK, hN, hZ⟩ := hvv
  have hts := atoms_spec (ws := .code yX11_trade cX11_trade 3 (some .int) :: zG) B.pre
  rw [lg_entry_eq]
  have hl := lv_entry (([.ref p0, .int x1, .int x2] : List Value).map (zv w.2.2.2.1)) (n := 3) (Nat.le_of_ble_eq_true rfl)
  have hG : ∀ x ∈ zG, x.before _ s = true := fun x hx => hts x (List.mem_cons_of_mem _ hx)
  have hA : zLA w RX11 cX11_trade 3 p s m _ c := ⟨B.exec, B.bytes, hml, findClass_of_methodNamed B.named, hG, hK, hN, hZ, hok, by rw [hsz]; omega⟩
  refine x_head ⟨by show 2 ≤ 10; omega, by show 120 ≤ 600; omega⟩ h hA ⟨hP, va_S.rf, hsz, Nat.zero_le _, Nat.zero_le _⟩ hl (fun H' locs' hD' => ?_)
  refine lv_if_ne (tgt := 19) B.exec B.bytes dX11_trade_8 (by decide) (fun _ => ?_) (fun h => absurd h hv)
  refine lv_iload_n B.exec B.bytes dX11_trade_19 rfl (lv_at hl 2 rfl) ?_
  refine lv_tableOut (tgt := 113) B.exec B.bytes dX11_trade_20 hx2 (by decide) ?_
  obtain ⟨k1, k3, k4, k5⟩ := hex s hZ
  refine vx_throw0 (ik := 151) (ic := 153) (cls := zNS) (names := zXN) B.exec B.bytes hst (findClass_of_methodNamed B.named) (by decide +kernel) (by decide +kernel) (hG _ zg_1321) (hG _ zg_24) (vx_hat (B := zEB) (fun x hx => hG x (zx_ns x hx)) zx_ns2 (zEB_use k1)) zx_ns3 k4 k5 hD'.2.1 (hl.1.trans hml.symm) dX11_trade_113 dX11_trade_116 dX11_trade_117 dX11_trade_120 (fun x hx => (hno x hx).elim) (by show 2 + 3 < 10; omega) (by show 0 + (13 * (2 + 1) + 42) ≤ 600; omega) (by show 0 + 1 ≤ 1; omega) (by show 0 + 6 ≤ 6; omega) B.notSynchronized ?_ hD'.2.1.2.2 (Nat.le_refl _) (Nat.le_refl _)
  intro t hal hle hsame
  obtain ⟨hP', hS', hsz', -⟩ := hD'
  refine ⟨rfl, hP'.kept (fun k q hq => hsame _ ((hP' k q hq).lt)), by rw [← hsz']; exact hle, Nat.le_trans hS'.1 hle, fun q hq hn => ?_⟩
  rw [hsame q (Nat.lt_of_lt_of_le hq hS'.1)]
  exact hS'.2.1 q hq hn
end ZTR
