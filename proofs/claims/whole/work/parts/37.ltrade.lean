/-! the law's own trade: it catches -/
def zHH : List (Nat × Nat × Nat × Nat) := [(0, 10, 13, 13), (0, 10, 17, 15)]
theorem zg_1252 : Cond.codeWith yL_trade cL_trade 5 (some .int) zHH ∈ zG := List.mem_filter.mpr ⟨List.mem_append_right _ (List.mem_of_getElem? (i := 1252) (by decide +kernel)), rfl⟩
def zQT (w : zWd) (σ : zH) (v : Int32) : Array Value → State → Outcome → State → Prop := fun _ st oc t =>
  oc = .returned (some (.int v)) ∧ va_P w.2.1 vwCl (zW w.2.2.2.1 w.2.2.1 σ) t.heap ∧ va_K w.2.1 vwCl (zTys w.2.2.1) t ∧ w.2.2.2.1 + σ.1.length + w.2.2.2.2.2 ≤ t.heap.size ∧ va_F (fun q => w.2.2.2.1 ≤ q) st t
section ZLT
variable {w : zWd} {S : List (Nat × Nat)} {M : zM} {px po : Nat} {a b v : Int32}
theorem l_head {p : Program} {e : Env} {R : Room} {s : State} {m : MethodId} {args : Array Value} {below : List Frame} {meth : Method} {c : Code} {Q : State → Prop} {lsr : Array Slot} (hx : p.tables.exec = Jvm.exec) (hb : c.code = cL_trade) (hl : lv_has lsr 5 [(0, .ref (w.2.2.2.1 + px)), (1, .int a), (2, .int b), (3, .ref (w.2.2.2.1 + po))])
    (kk : W p w.1 e R s m args below meth c s.heap [] 0 0 Q (F0 m 5 lsr [.int b, .int a, .ref (w.2.2.2.1 + px), .int 0, .ref (w.2.2.2.1 + po)])) : W p w.1 e R s m args below meth c s.heap [] 0 0 Q (F0 m 0 lsr []) := by
  refine lv_aload_n hx hb dL_trade_0 rfl (lv_at hl 3 rfl) ?_
  refine lv_iconst (v := 0) hx hb dL_trade_1 (by decide) ?_
  refine lv_aload_n hx hb dL_trade_2 rfl (lv_at hl 0 rfl) ?_
  refine lv_iload_n hx hb dL_trade_3 rfl (lv_at hl 1 rfl) ?_
  refine lv_iload_n hx hb dL_trade_4 rfl (lv_at hl 2 rfl) ?_
  exact kk
theorem l_call {Qc : Array Value → State → Outcome → State → Prop} {XC : String → State → State → Prop} {mc ms : Nat} {p : Program} {e : Env} {R : Room} {s : State} {m : MethodId} {args : Array Value} {below : List Frame} {meth : Method} {c : Code} {lsr : Array Slot} {M : zM} (hS0 : S[px]? = some (11, 14)) (hA : zLA w RL cL_trade 5 p s m args c) (hD : zLD w s R (S, M) s.heap [] 0 0) (hsz : lsr.size = 5) (hR : 12 ≤ R.frames ∧ 800 ≤ R.locals) (hf : mc ≤ R.cells ∧ ms ≤ R.slots)
    (hM : vx_Met w.1 yX11_trade (.code yX11_trade cX11_trade 3 (some .int) :: zG) { frames := 10, cells := mc, slots := ms, locals := 600 } (zP w [.ref px, .int a, .int b] (S, M)) Qc XC mc ms (fun q => w.2.2.2.1 ≤ q)) :
    vx_Run p w.1 e R s m args below meth c s.heap [] 0 0 mc ms (F0 m 5 lsr [.int b, .int a, .ref (w.2.2.2.1 + px), .int 0, .ref (w.2.2.2.1 + po)]) [.int 0, .ref (w.2.2.2.1 + po)] (Qc (Value.ref (w.2.2.2.1 + px) :: [.int a, .int b]).toArray) XC (fun q => w.2.2.2.1 ≤ q) := by
  obtain ⟨hx, hb, hml, hown, hG, hK, hN, hZ, hok, hBs⟩ := id hA
  obtain ⟨hP, hS, hH, hce, hsl⟩ := id hD
  obtain ⟨⟨⟨hm1, hm2⟩, hm3, hm4⟩, hi, hs, TX, hcl⟩ := mv_X11_trade
  have he := zW_get (B := w.2.2.2.1) (T := w.2.2.1) (σ := (S, M)) hS0
  rw [zE_obj hcl.2.2.2.2.1] at he
  exact vx_runV (As := [.int a, .int b]) (rest := [.int 0, .ref (w.2.2.2.1 + po)]) (C := RX11) (b := w.2.2.2.1 + px) (Ts := zG) (own := RL) (index := 7) (n := 2) ⟨hx, hb, hml, hown, hG⟩ hM ⟨callB_of 2 hG (zgood (ws := zG) hm1) rfl rfl rfl (hG _ hm2) (hG _ zg_1255) hm3 ⟨by show 10 + 1 ≤ R.frames; omega, by show 8 + (3 + 11) + 600 ≤ R.locals; omega⟩, hG _ hi, hG _ hs⟩ ⟨zblind hok, va_recv hK hP hcl.1 he, zlpre hA hD [.ref px, .int a, .int b]⟩ rfl rfl hsz rfl (Nat.le_of_ble_eq_true rfl) dL_trade_5 ⟨by omega, by omega⟩
theorem l_ok (hok : zOK w) (hS0 : S[px]? = some (11, 14)) (hpo : S[po]? = some (101, 1)) {r : Int32 × zM} (hr : gX11_trade S px a b M = some r) : Met w.1 yL_trade (.codeWith yL_trade cL_trade 5 (some .int) zHH :: zG) { frames := 20, cells := 0, slots := 0, locals := 1200 } (zP w [.ref px, .int a, .int b, .ref po] (S, M)) (zQ w (some (.int 0), (S, zsL r.2 po 0 r.1.toInt64))) 0 0 (fun q => w.2.2.2.1 ≤ q) := by
  refine va_MetW (cc := cL_trade) (maxL := 5) (ret := some .int) (hh := zHH) (ws' := zG) (by decide) rfl ?_
  intro p e s m args below meth c s₁ B hml hv
  obtain ⟨rfl, hsz, hP, hK, hN, hZ⟩ := hv
  have hts := atoms_spec (ws := .codeWith yL_trade cL_trade 5 (some .int) zHH :: zG) B.pre
  rw [lg_entry_eq]
  have hl := lv_entry (([.ref px, .int a, .int b, .ref po] : List Value).map (zv w.2.2.2.1)) (n := 5) (Nat.le_of_ble_eq_true rfl)
  generalize (lg_sl (([.ref px, .int a, .int b, .ref po] : List Value).map (zv w.2.2.2.1)) ++ List.replicate (5 - (lg_sl (([.ref px, .int a, .int b, .ref po] : List Value).map (zv w.2.2.2.1))).length) Slot.unset).toArray = ls at hl ⊢
  have hl : lv_has ls 5 [(0, .ref (w.2.2.2.1 + px)), (1, .int a), (2, .int b), (3, .ref (w.2.2.2.1 + po))] := hl
  have hG : ∀ x ∈ zG, x.before _ s = true := fun x hx => hts x (List.mem_cons_of_mem _ hx)
  have hA : zLA w RL cL_trade 5 p s m _ c := ⟨B.exec, B.bytes, hml, findClass_of_methodNamed B.named, hG, hK, hN, hZ, hok, by rw [hsz]; omega⟩
  have hD : zLD w s (headSpec (.codeWith yL_trade cL_trade 5 (some .int) zHH :: zG) { frames := 20, cells := 0, slots := 0, locals := 1200 }).room (S, M) s.heap [] 0 0 := ⟨hP, va_S.rf, hsz, Nat.zero_le _, Nat.zero_le _⟩
  refine l_head B.exec B.bytes hl ?_
  have hrun := l_call (po := po) (e := e) (below := below) (meth := meth) (lsr := ls) (a := a) (b := b) hS0 hA hD hl.1 ⟨by show 12 ≤ 20; omega, by show 800 ≤ 1200; omega⟩ ⟨Nat.zero_le _, Nat.zero_le _⟩ (x_ok hok hr)
  intro T hT X
  rcases hrun T hT X with ⟨v1, st₀, t, T', L, h0, X', hL, e1, e2, hq, go⟩ | ⟨q, st₀, t, T', L, E, ce, h0, X', hL, e1, e2, hq, -⟩
  · obtain ⟨hv1, hP', hK', hsz', hF⟩ := hq
    cases hv1
    have hS' : va_S (fun q => w.2.2.2.1 ≤ q) s.heap T'.heap ([] ++ L) := by
      refine ⟨by rw [e1, ← h0]; exact hF.1, fun q hq hn => by rw [e1, ← h0]; exact hF.2 q (by rw [h0]; exact hq) hn, fun q hq => hL q (by simpa using hq)⟩
    have K : W p w.1 e (headSpec (.codeWith yL_trade cL_trade 5 (some .int) zHH :: zG) { frames := 20, cells := 0, slots := 0, locals := 1200 }).room s m (([.ref px, .int a, .int b, .ref po] : List Value).map (zv w.2.2.2.1)).toArray below meth c T'.heap ([] ++ L) (0 + 0) (0 + 0) (MQ below (zQ w (some (.int 0), (S, zsL r.2 po 0 r.1.toInt64))) (([.ref px, .int a, .int b, .ref po] : List Value).map (zv w.2.2.2.1)).toArray s 0 0 (fun q => w.2.2.2.1 ≤ q)) (F0 m 8 ls [.int r.1, .int 0, .ref (w.2.2.2.1 + po)]) := by
      have hP'' : va_P w.2.1 vwCl (zW w.2.2.2.1 w.2.2.1 (S, r.2)) T'.heap := by rw [e1]; exact hP'
      have he := zW_get (B := w.2.2.2.1) (T := w.2.2.1) (σ := (S, r.2)) hpo
      rw [zE_101] at he
      refine lv_i2l B.exec B.bytes dL_trade_8 rfl ?_
      refine va_last B.exec B.bytes hK hP'' zW_D hS' po 1 he rfl (by unfold vp_in; decide) dL_trade_9 (fun H1 locs1 hP1 _ hS1 => ?_)
      rw [← zsL_row, ← zE_101 (B := w.2.2.2.1) (T := w.2.2.1), zW_set (σ := (S, r.2)) (M' := zsL r.2 po ((0 : Int32).toNatClampNeg) r.1.toInt64) hpo (fun a h => ⟨rfl, u2_ne h, rfl⟩)] at hP1
      refine lv_goto (tgt := 21) B.exec B.bytes dL_trade_10 (by decide) ?_
      refine lv_iconst (v := 0) B.exec B.bytes dL_trade_21 (by decide) ?_
      intro T2 hT2 X2
      have hup := X2.heapSize
      rw [hT2] at hup
      have hlo := hS1.1
      refine W.iret B.exec B.bytes B.returns (fun t2 ht2 hW2 => ⟨rfl, by rw [ht2]; exact hP1, va_K.moved hW2.alike hK, ?_, hS1.F ht2⟩) hS1.2.2 dL_trade_22 B.notSynchronized T2 hT2 X2
      show t2.heap.size = w.2.2.2.1 + S.length + w.2.2.2.2.2
      have hsz2 : s.heap.size = w.2.2.2.1 + S.length + w.2.2.2.2.2 := hsz
      rw [ht2]
      omega
    obtain ⟨t2, a1, b1⟩ := K T' rfl X'
    exact ⟨t2, go t2 a1, b1⟩
  · exact hq.elim
theorem l_throw {nm : String} {hp : Nat} {ans : Int32} (hok : zOK w) (hS0 : S[px]? = some (11, 14)) (hex : zEX w)
    (hM : vx_Met w.1 yX11_trade (.code yX11_trade cX11_trade 3 (some .int) :: zG) { frames := 10, cells := 1, slots := 6, locals := 600 } (zP w [.ref px, .int a, .int b] (S, M)) (fun _ _ _ _ => False) (zXC w (S, M) nm) 1 6 (fun q => w.2.2.2.1 ≤ q))
    (hcase : (nm = zIO ∧ ans = 1) ∨ (nm = zNS ∧ ans = 2)) : Met w.1 yL_trade (.codeWith yL_trade cL_trade 5 (some .int) zHH :: zG) { frames := 20, cells := 1, slots := 6, locals := 1200 } (zP w [.ref px, .int a, .int b, .ref po] (S, M)) (zQT w (S, M) ans) 1 6 (fun q => w.2.2.2.1 ≤ q) := by
  refine va_MetW (cc := cL_trade) (maxL := 5) (ret := some .int) (hh := zHH) (ws' := zG) (by decide) rfl ?_
  intro p e s m args below meth c s₁ B hml hv
  obtain ⟨rfl, hsz, hP, hK, hN, hZ⟩ := hv
  have hts := atoms_spec (ws := .codeWith yL_trade cL_trade 5 (some .int) zHH :: zG) B.pre
  have htab := vx_table (x := yL_trade) B (hts _ List.mem_cons_self)
  rw [lg_entry_eq]
  have hl := lv_entry (([.ref px, .int a, .int b, .ref po] : List Value).map (zv w.2.2.2.1)) (n := 5) (Nat.le_of_ble_eq_true rfl)
  generalize (lg_sl (([.ref px, .int a, .int b, .ref po] : List Value).map (zv w.2.2.2.1)) ++ List.replicate (5 - (lg_sl (([.ref px, .int a, .int b, .ref po] : List Value).map (zv w.2.2.2.1))).length) Slot.unset).toArray = ls at hl ⊢
  have hl : lv_has ls 5 [(0, .ref (w.2.2.2.1 + px)), (1, .int a), (2, .int b), (3, .ref (w.2.2.2.1 + po))] := hl
  have hG : ∀ x ∈ zG, x.before _ s = true := fun x hx => hts x (List.mem_cons_of_mem _ hx)
  have hown : s.vm.findClass RL = some m.cls := findClass_of_methodNamed B.named
  have hA : zLA w RL cL_trade 5 p s m _ c := ⟨B.exec, B.bytes, hml, hown, hG, hK, hN, hZ, hok, by rw [hsz]; omega⟩
  have hD : zLD w s (headSpec (.codeWith yL_trade cL_trade 5 (some .int) zHH :: zG) { frames := 20, cells := 1, slots := 6, locals := 1200 }).room (S, M) s.heap [] 0 0 := ⟨hP, va_S.rf, hsz, Nat.zero_le _, Nat.zero_le _⟩
  obtain ⟨k1, k3, -, -⟩ := hex s hZ
  refine l_head B.exec B.bytes hl ?_
  have hrun := l_call (po := po) (e := e) (below := below) (meth := meth) (lsr := ls) (a := a) (b := b) hS0 hA hD hl.1 ⟨by show 12 ≤ 20; omega, by show 800 ≤ 1200; omega⟩ ⟨Nat.le_refl _, Nat.le_refl _⟩ hM
  intro T hT X
  rcases hrun T hT X with ⟨v1, st₀, t, T', L, h0, X', hL, e1, e2, hq, go⟩ | ⟨q, st₀, t, T', L, E, ce, h0, X', hL, e1, e2, hq, hce, hvm, hcl, go⟩
  · exact hq.elim
  · obtain ⟨hE, hP', hsz', hF⟩ := hq
    subst hE
    have hS' : va_S (fun q => w.2.2.2.1 ≤ q) s.heap T'.heap ([] ++ L) := by
      refine ⟨by rw [e1, ← h0]; exact hF.1, fun q hq hn => by rw [e1, ← h0]; exact hF.2 q (by rw [h0]; exact hq) hn, fun q hq => hL q (by simpa using hq)⟩
    have hcell : T'.heap[q]? = some ce := by rw [e1]; exact hce
    have hend : ∀ (ls2 : Array Slot) (pc : Nat) (hdg : decode cL_trade pc = .ok (.ireturn, 1)), W p w.1 e (headSpec (.codeWith yL_trade cL_trade 5 (some .int) zHH :: zG) { frames := 20, cells := 1, slots := 6, locals := 1200 }).room s m (([.ref px, .int a, .int b, .ref po] : List Value).map (zv w.2.2.2.1)).toArray below meth c T'.heap ([] ++ L) (0 + 1) (0 + 6) (MQ below (zQT w (S, M) ans) (([.ref px, .int a, .int b, .ref po] : List Value).map (zv w.2.2.2.1)).toArray s 1 6 (fun q => w.2.2.2.1 ≤ q)) (F0 m pc ls2 [.int ans]) := fun ls2 pc hdg =>
      W.iret B.exec B.bytes B.returns (fun t2 ht2 hW2 => ⟨rfl, by rw [ht2, e1]; exact hP', va_K.moved hW2.alike hK, by rw [ht2, e1]; exact hsz', hS'.F ht2⟩) hS'.2.2 hdg B.notSynchronized
    have K : vx_W p w.1 e (headSpec (.codeWith yL_trade cL_trade 5 (some .int) zHH :: zG) { frames := 20, cells := 1, slots := 6, locals := 1200 }).room s m (([.ref px, .int a, .int b, .ref po] : List Value).map (zv w.2.2.2.1)).toArray below meth c T'.heap ([] ++ L) (0 + 1) (0 + 6) (MQ below (zQT w (S, M) ans) (([.ref px, .int a, .int b, .ref po] : List Value).map (zv w.2.2.2.1)).toArray s 1 6 (fun q => w.2.2.2.1 ≤ q)) (F0 m 5 ls [.int 0, .ref (w.2.2.2.1 + po)]) q := by
      rcases hcase with ⟨rfl, rfl⟩ | ⟨rfl, rfl⟩
      · refine vx_catch (name := zIO) hown [] ⟨0, 10, 13, 13⟩ [⟨0, 10, 17, 15⟩] (by rw [htab]; rfl) (fun z h => by cases h) (by decide) (by decide) (hG _ zg_1253) (zEB_use k1 _ (List.mem_filter.mpr ⟨List.mem_append_right _ (List.mem_of_getElem? (i := 1261) (by decide +kernel)), rfl⟩)) hcell hvm hcl ?_
        refine lv_astore (lv' := [(4, .ref q), (0, .ref (w.2.2.2.1 + px)), (1, .int a), (2, .int b), (3, .ref (w.2.2.2.1 + po))]) B.exec B.bytes dL_trade_13 hl (by decide) rfl (fun ls2 hl2 => ?_)
        refine lv_iconst (v := 1) B.exec B.bytes dL_trade_15 (by decide) ?_
        exact hend _ _ dL_trade_16
      · refine vx_catch (name := zNS) hown [⟨0, 10, 13, 13⟩] ⟨0, 10, 17, 15⟩ [] (by rw [htab]; rfl) (fun z h => by rw [List.mem_singleton.mp h]; exact Or.inr ⟨by decide, zIO, hG _ zg_1253, k3⟩) (by decide) (by decide) (hG _ zg_1254) (zEB_use k1 _ (List.mem_filter.mpr ⟨List.mem_append_right _ (List.mem_of_getElem? (i := 1323) (by decide +kernel)), rfl⟩)) hcell hvm hcl ?_
        refine lv_astore (lv' := [(4, .ref q), (0, .ref (w.2.2.2.1 + px)), (1, .int a), (2, .int b), (3, .ref (w.2.2.2.1 + po))]) B.exec B.bytes dL_trade_17 hl (by decide) rfl (fun ls2 hl2 => ?_)
        refine lv_iconst (v := 2) B.exec B.bytes dL_trade_19 (by decide) ?_
        exact hend _ _ dL_trade_20
    obtain ⟨t2, a1, b1⟩ := K T' rfl X'
    exact ⟨t2, go.trans a1, b1⟩
end ZLT
