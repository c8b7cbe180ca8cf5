/-! what the launch's tables and strings give beside the words; the rows of charAt and length -/
def zT1 : List Int32 := [116, 114, 97, 100, 101, 32, 116, 117, 114, 110, 32, 99, 108, 97, 105, 109, 32, 119, 111, 114, 107, 32, 115, 108, 105, 112, 32, 115, 101, 101, 100, 32, 108, 97, 119, 32, 108, 101, 110, 103, 116, 104, 32, 102, 97, 109, 101, 32, 119, 105, 108, 108, 32, 111, 114, 32, 97, 110, 100, 32, 110, 111, 116, 32, 104, 111, 117, 114, 32, 109, 97, 110, 110, 101, 114, 32, 107, 110, 111, 119, 110, 32, 111, 112, 101, 110, 101, 100, 32, 108, 101, 102, 116, 32, 108, 97, 115, 116, 32, 100, 97, 116, 101]
def zT2 : List Int32 := [116, 114, 97, 100, 101, 32, 116, 117, 114, 110, 32, 99, 108, 97, 105, 109, 32, 119, 111, 114, 107, 32, 115, 108, 105, 112, 32, 115, 101, 101, 100, 32, 108, 97, 119, 32, 108, 101, 110, 103, 116, 104, 32, 102, 97, 109, 101, 32, 119, 105, 108, 108, 32, 111, 114, 32, 97, 110, 100, 32, 110, 111, 116, 32, 104, 111, 117, 114, 32, 109, 97, 110, 110, 101, 114, 32, 107, 110, 111, 119, 110, 32, 111, 112, 101, 110, 101, 100, 32, 108, 101, 102, 116, 32, 108, 97, 115, 116, 32, 100, 97, 116, 101, 32]
def zX1 : String := "trade turn claim work slip seed law length fame will or and not hour manner known opened left last date"
def zX2 : String := "trade turn claim work slip seed law length fame will or and not hour manner known opened left last date "
def zS1 (B : Nat) (own : String) (idx : Nat) (tx : String) (W : List Int32) (s : State) : Prop := ∃ q v : Nat, vk_R own idx tx q s ∧ zJ B q v W.length (fun j => W.getD j 0) s
def zSZ (w : zWd) : Prop := ∀ s : State, w.2.2.2.2.1 s → va_AO "DayOpeners$State" s ∧ zS1 w.2.2.2.1 "DayOpeners$Tokens" 23 zX1 zT1 s ∧ zS1 w.2.2.2.1 "DayOpenersModel" 194 zX2 zT2 s
def zWok (W : List Int32) : Prop := W.length < 2 ^ 31 ∧ ∀ j, j < W.length → zch (W.getD j 0) = W.getD j 0 ∧ narrow .char (.int (W.getD j 0)) = .int (W.getD j 0)
theorem zT1_ok : zWok zT1 := ⟨by decide +kernel, by decide +kernel⟩
theorem zT2_ok : zWok zT2 := ⟨by decide +kernel, by decide +kernel⟩
def zsC {ρ : Type} (W : List Int32) (i : Int32) (f : Int32 → Option ρ) : Option ρ := if i < 0 ∨ W.length ≤ i.toNatClampNeg then none else f (W.getD i.toNatClampNeg 0)
def zsN {ρ : Type} (W : List Int32) (f : Int32 → Option ρ) : Option ρ := f (Int32.ofNat W.length)
section ZSTR
variable {ρ : Type} {fin : ρ → Option Value × zH} {w : zWd} {d : Nat} {mi : zMI} {pc : Nat} {ls : List (Nat × Value)} {st : List Value} {S : List (Nat × Nat)} {M : zM} {o : Option ρ}
theorem zstr_at {own tx : String} {idx : Nat} {Ws : List Int32} {p : Program} {R : Room} {s : State} {m : MethodId} {args : Array Value} {meth : Method} {c : Code} {σf σ : zH} {H : Heap} {locs : List Loc} {cells slots c0 s0 : Nat} (hz : ∀ s : State, w.2.2.2.2.1 s → zS1 w.2.2.2.1 own idx tx Ws s) (hA : zA w d mi p R s m args meth c) (hD : zD w s R σf σ H locs cells slots c0 s0) :
    ∃ q v : Nat, vk_R own idx tx q s ∧ (∃ cell : Cell, H[q]? = some cell ∧ cell.vm.isStatics = false ∧ s.vm.findClass "java/lang/String" = some cell.cls) ∧ ∀ U : State, U.heap = H → s.WarmedH U.vm → zJ w.2.2.2.1 q v Ws.length (fun j => Ws.getD j 0) U := by
  obtain ⟨-, -, -, -, -, -, -, -, -, -, hZ, -, -, -, hBs⟩ := hA
  obtain ⟨-, hS, -⟩ := hD
  obtain ⟨q, v, h1, h2⟩ := hz s hZ
  have hh : ∀ a, a < w.2.2.2.1 → H[a]? = s.heap[a]? := fun a ha => hS.2.1 a (Nat.lt_of_lt_of_le ha hBs) (Nat.not_le.mpr ha)
  refine ⟨q, v, h1, ?_, fun U hU hW => zJ_st s U hW (fun a ha => by rw [hU]; exact hh a ha) h2⟩
  obtain ⟨cell, a1, a2, a3, a4⟩ := h2.1
  exact ⟨cell, by rw [hh q (Nat.not_le.mp a4)]; exact a1, a2, a3⟩
theorem zchar {Ws : List Int32} {x : Int32} {idx q v : Nat} {p : Program} {e : Env} {R : Room} {s : State} {m : MethodId} {args : Array Value} {below : List Frame} {meth : Method} {c : Code} {σf σ : zH} {H : Heap} {locs : List Loc} {cells slots c0 s0 : Nat} {lsr : Array Slot} {rest : List Value} {Q : State → Prop} (hWs : zWok Ws) (hin : ¬ (x < 0 ∨ Ws.length ≤ x.toNatClampNeg)) (hlink : Cond.methodLink mi.1.cls idx yJ0_charAt_5068e ∈ zG) (hd : 5 ≤ d) (hA : zA w d mi p R s m args meth c) (hD : zD w s R σf σ H locs cells slots c0 s0) (hsz : lsr.size = mi.2.2.1) (hrecv : ∃ cell : Cell, H[q]? = some cell ∧ cell.vm.isStatics = false ∧ s.vm.findClass "java/lang/String" = some cell.cls) (hJ : ∀ U : State, U.heap = H → s.WarmedH U.vm → zJ w.2.2.2.1 q v Ws.length (fun j => Ws.getD j 0) U) (hst : (rest.map fun v => v.category).sum ≤ 8) (hdg : decode mi.2.1 pc = .ok (.invokevirtual idx, 3))
    (kk : W p w.1 e R s m args below meth c H locs cells slots Q (F0 m (pc + 3) lsr (.int (Ws.getD x.toNatClampNeg 0) :: rest))) : W p w.1 e R s m args below meth c H locs cells slots Q (F0 m pc lsr (.int x :: .ref q :: rest)) := by
  obtain ⟨hx, hb, -, hml, hown, -, hG, -, -, -, -, -, hfr, hlo, -⟩ := id hA
  obtain ⟨-, -, -, -, -, hce, hsl, -, -⟩ := id hD
  have hlt : x.toNatClampNeg < Ws.length := Nat.not_le.mp fun q => hin (Or.inr q)
  obtain ⟨e1, e2⟩ := hWs.2 _ hlt
  have hM := j_char (w := w) (B := w.2.2.2.1) (q := q) (v := v) (n := Ws.length) (f := fun j => Ws.getD j 0) x hin hWs.1 (by show narrow .char (.int (zch (Ws.getD x.toNatClampNeg 0))) = _; rw [e1]; exact e2)
  rw [show zch ((fun j => Ws.getD j 0) x.toNatClampNeg) = Ws.getD x.toNatClampNeg 0 from e1] at hM
  refine jrun (va_runV (As := [.int x]) (rest := rest) (n := 1) (b := q) (C := "java/lang/String") ⟨hx, hb, hml, hown, hG⟩ hM ⟨callB_of 1 hG (zgood (ws := zG) zg_75) rfl rfl rfl (hG _ zg_6) (hG _ hlink) ⟨by decide, by decide, by decide +kernel⟩ ⟨by show 4 + 1 ≤ R.frames; omega, by show 8 + (2 + 11) + 60 * 4 ≤ R.locals; omega⟩, hG _ zg_73, hG _ zg_74⟩ ⟨jblind zJ_st, hrecv, fun U hU hW => ⟨rfl, hJ U hU hW⟩⟩ rfl rfl hsz rfl (by show 2 * 0 + _ ≤ 8; omega) hdg ⟨by omega, by omega⟩) ?_
  exact kk
theorem zslen {Ws : List Int32} {idx q v : Nat} {p : Program} {e : Env} {R : Room} {s : State} {m : MethodId} {args : Array Value} {below : List Frame} {meth : Method} {c : Code} {σf σ : zH} {H : Heap} {locs : List Loc} {cells slots c0 s0 : Nat} {lsr : Array Slot} {rest : List Value} {Q : State → Prop} (hlink : Cond.methodLink mi.1.cls idx yJ0_length_8abf5 ∈ zG) (hd : 5 ≤ d) (hA : zA w d mi p R s m args meth c) (hD : zD w s R σf σ H locs cells slots c0 s0) (hsz : lsr.size = mi.2.2.1) (hrecv : ∃ cell : Cell, H[q]? = some cell ∧ cell.vm.isStatics = false ∧ s.vm.findClass "java/lang/String" = some cell.cls) (hJ : ∀ U : State, U.heap = H → s.WarmedH U.vm → zJ w.2.2.2.1 q v Ws.length (fun j => Ws.getD j 0) U) (hst : (rest.map fun v => v.category).sum ≤ 8) (hdg : decode mi.2.1 pc = .ok (.invokevirtual idx, 3))
    (kk : W p w.1 e R s m args below meth c H locs cells slots Q (F0 m (pc + 3) lsr (.int (Int32.ofNat Ws.length) :: rest))) : W p w.1 e R s m args below meth c H locs cells slots Q (F0 m pc lsr (.ref q :: rest)) := by
  obtain ⟨hx, hb, -, hml, hown, -, hG, -, -, -, -, -, hfr, hlo, -⟩ := id hA
  obtain ⟨-, -, -, -, -, hce, hsl, -, -⟩ := id hD
  have hM := j_length (w := w) (B := w.2.2.2.1) (q := q) (v := v) (n := Ws.length) (f := fun j => Ws.getD j 0)
  refine jrun (va_runV (As := []) (rest := rest) (n := 0) (b := q) (C := "java/lang/String") ⟨hx, hb, hml, hown, hG⟩ hM ⟨callB_of 0 hG (zgood (ws := zG) zg_65) rfl rfl rfl (hG _ zg_6) (hG _ hlink) ⟨by decide, by decide, by decide +kernel⟩ ⟨by show 2 + 1 ≤ R.frames; omega, by show 8 + (1 + 11) + 60 * 2 ≤ R.locals; omega⟩, hG _ zg_63, hG _ zg_64⟩ ⟨jblind zJ_st, hrecv, fun U hU hW => ⟨rfl, hJ U hU hW⟩⟩ rfl rfl hsz rfl (by show 2 * 0 + _ ≤ 8; omega) hdg ⟨by omega, by omega⟩) ?_
  exact kk
theorem r_chA {k9 : Fin 4} {a k idx : Nat} {tx : String} {Ws : List Int32} {x : Int32} {f : Int32 → Option ρ} (j : Nat) (hz : ∀ s : State, w.2.2.2.2.1 s → zS1 w.2.2.2.1 mi.1.cls k tx Ws s) (hWs : zWok Ws) (hlink : Cond.methodLink mi.1.cls idx yJ0_charAt_5068e ∈ zG) (hd : 5 ≤ d) (hst : (st.map fun v => v.category).sum ≤ 8) (d1 : decode mi.2.1 pc = .ok (.ldc k, 2)) (d2 : decode mi.2.1 (pc + 2) = .ok (.iload_n k9, 1)) (hi : (k9 : Nat) = a) (hg : ls[j]? = some (a, .int x)) (d3 : decode mi.2.1 (pc + 3) = .ok (.invokevirtual idx, 3)) (kk : ∀ v, AJ fin w d mi (pc + 6) ls (.int v :: st) (S, M) (f v)) : AJ fin w d mi pc ls st (S, M) (zsC Ws x f) := by
  refine aj_ckn fun hin => ?_
  intro r hr p e R s m args below meth c H locs cells slots c0 s0 lsr hA hD hl
  obtain ⟨q, v, h1, h2, h3⟩ := zstr_at hz hA hD
  refine va_ldcS hA.1 hA.2.1 hA.2.2.2.2.1 h1 d1 ?_
  refine lv_iload_n hA.1 hA.2.1 d2 hi (lv_at hl j (zls_get hg)) ?_
  exact zchar hWs hin hlink hd hA hD hl.1 h2 h3 (by rw [zrest]; exact hst) d3 (kk _ r hr p e R s m args below meth c H locs cells slots c0 s0 lsr hA hD hl)
theorem r_chL {a k idx : Nat} {tx : String} {Ws : List Int32} {x : Int32} {f : Int32 → Option ρ} (j : Nat) (hz : ∀ s : State, w.2.2.2.2.1 s → zS1 w.2.2.2.1 mi.1.cls k tx Ws s) (hWs : zWok Ws) (hlink : Cond.methodLink mi.1.cls idx yJ0_charAt_5068e ∈ zG) (hd : 5 ≤ d) (hst : (st.map fun v => v.category).sum ≤ 8) (d1 : decode mi.2.1 pc = .ok (.ldc k, 2)) (d2 : decode mi.2.1 (pc + 2) = .ok (.iload a, 2)) (hg : ls[j]? = some (a, .int x)) (d3 : decode mi.2.1 (pc + 4) = .ok (.invokevirtual idx, 3)) (kk : ∀ v, AJ fin w d mi (pc + 7) ls (.int v :: st) (S, M) (f v)) : AJ fin w d mi pc ls st (S, M) (zsC Ws x f) := by
  refine aj_ckn fun hin => ?_
  intro r hr p e R s m args below meth c H locs cells slots c0 s0 lsr hA hD hl
  obtain ⟨q, v, h1, h2, h3⟩ := zstr_at hz hA hD
  refine va_ldcS hA.1 hA.2.1 hA.2.2.2.2.1 h1 d1 ?_
  refine lv_iload hA.1 hA.2.1 d2 (lv_at hl j (zls_get hg)) ?_
  exact zchar hWs hin hlink hd hA hD hl.1 h2 h3 (by rw [zrest]; exact hst) d3 (kk _ r hr p e R s m args below meth c H locs cells slots c0 s0 lsr hA hD hl)
theorem r_chB {k8 k9 : Fin 4} {a b k idx : Nat} {tx : String} {Ws : List Int32} {x y : Int32} {f : Int32 → Option ρ} (j j2 : Nat) (hz : ∀ s : State, w.2.2.2.2.1 s → zS1 w.2.2.2.1 mi.1.cls k tx Ws s) (hWs : zWok Ws) (hlink : Cond.methodLink mi.1.cls idx yJ0_charAt_5068e ∈ zG) (hd : 5 ≤ d) (hst : (st.map fun v => v.category).sum ≤ 8) (d1 : decode mi.2.1 pc = .ok (.ldc k, 2)) (d2 : decode mi.2.1 (pc + 2) = .ok (.iload_n k8, 1)) (hi : (k8 : Nat) = a) (hg : ls[j]? = some (a, .int x)) (d3 : decode mi.2.1 (pc + 3) = .ok (.iload_n k9, 1)) (hi2 : (k9 : Nat) = b) (hg2 : ls[j2]? = some (b, .int y)) (d4 : decode mi.2.1 (pc + 4) = .ok (.iadd, 1)) (d5 : decode mi.2.1 (pc + 5) = .ok (.invokevirtual idx, 3)) (kk : ∀ v, AJ fin w d mi (pc + 8) ls (.int v :: st) (S, M) (f v)) : AJ fin w d mi pc ls st (S, M) (zsC Ws (x + y) f) := by
  refine aj_ckn fun hin => ?_
  intro r hr p e R s m args below meth c H locs cells slots c0 s0 lsr hA hD hl
  obtain ⟨q, v, h1, h2, h3⟩ := zstr_at hz hA hD
  refine va_ldcS hA.1 hA.2.1 hA.2.2.2.2.1 h1 d1 ?_
  refine lv_iload_n hA.1 hA.2.1 d2 hi (lv_at hl j (zls_get hg)) ?_
  refine lv_iload_n hA.1 hA.2.1 d3 hi2 (lv_at hl j2 (zls_get hg2)) ?_
  refine lv_iadd hA.1 hA.2.1 d4 ?_
  exact zchar hWs hin hlink hd hA hD hl.1 h2 h3 (by rw [zrest]; exact hst) d5 (kk _ r hr p e R s m args below meth c H locs cells slots c0 s0 lsr hA hD hl)
theorem r_slen {k idx : Nat} {tx : String} {Ws : List Int32} {f : Int32 → Option ρ} (hz : ∀ s : State, w.2.2.2.2.1 s → zS1 w.2.2.2.1 mi.1.cls k tx Ws s) (hlink : Cond.methodLink mi.1.cls idx yJ0_length_8abf5 ∈ zG) (hd : 5 ≤ d) (hst : (st.map fun v => v.category).sum ≤ 8) (d1 : decode mi.2.1 pc = .ok (.ldc k, 2)) (d3 : decode mi.2.1 (pc + 2) = .ok (.invokevirtual idx, 3)) (kk : ∀ v, AJ fin w d mi (pc + 5) ls (.int v :: st) (S, M) (f v)) : AJ fin w d mi pc ls st (S, M) (zsN Ws f) := by
  intro r hr p e R s m args below meth c H locs cells slots c0 s0 lsr hA hD hl
  obtain ⟨q, v, h1, h2, h3⟩ := zstr_at hz hA hD
  refine va_ldcS hA.1 hA.2.1 hA.2.2.2.2.1 h1 d1 ?_
  exact zslen hlink hd hA hD hl.1 h2 h3 (by rw [zrest]; exact hst) d3 (kk _ r hr p e R s m args below meth c H locs cells slots c0 s0 lsr hA hD hl)
end ZSTR
