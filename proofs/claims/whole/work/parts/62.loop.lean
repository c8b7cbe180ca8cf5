-- ===== end of PART A; then your names; then what follows =====
/-! THE CLAIM OUT OF ONE WALK OF THE LAW'S BODY. Your part is whole_start (and what it stands on); all else here is the same for every law, but numbers. -/
def R_law : String := "DayOpenersLaw"
def lw_P (b : Addr) (xs : List Int32) (args : Array Value) (s : State) : Prop := args = #[.ref b] ∧ s.IntsAt b xs ∧ xs.length ≤ 3072 ∧ (Jvm.Cond.and given_1 narrow_1).before args s = true
def lw_Q (_ : Array Value) (s : State) (o : Outcome) (t : State) : Prop := o = .returned (some (.int 1)) ∧ Framed s o t [] 601024 7293034
def lw_Z (below : List Frame) (a : Array Value) (s : State) : State → Prop := fun t => ∃ o, t.status = .running ∧ Ended t below o ∧ lw_Q a s o t
/-- the law's own end, with 1 on the stack, nothing written that was there before, its room as the claim has it -/
theorem lw_ret {p : Program} {l : Launch} {e : Env} {s : State} {m : MethodId} {below : List Frame} {meth : Method} {c : Code} {b : Nat} (hx : p.tables.exec = Jvm.exec) (hb : c.code = code) (hr : meth.sig.returnType = ret) (hlocks : meth.locks = false) {pc : Nat} {H : Heap} {ls : Array Slot} (hdg : decode code pc = .ok (.ireturn, 1)) : W p l e room_1 s m #[Value.ref b] below meth c H [] 601024 7293034 (lw_Z below #[Value.ref b] s) (F0 m pc ls [.int 1]) := by
  intro T hT X
  obtain ⟨fs, hret, hrun, hended, hW, hframe⟩ := X.leave (v := some (.int 1)) (hlocks := hlocks) (fun h => by rw [hr] at h; cases h)
  have hmeth' : T.vm.method? m = some meth := X.method'
  refine ⟨T.setFrames fs, ?_, .returned (some (.int 1)), hrun, hended, rfl, ⟨_, rfl⟩, hW, hframe⟩
  jvm_step X.here [X.here.top, hx, hb, hdg, hmeth', hr, ret, narrow_b1]
  (try refine ⟨rfl, ?_⟩); (try refine ⟨rfl, ?_⟩)
  first | (intro acts; rw [hret _ acts rfl rfl rfl]) | rw [hret _ _ rfl rfl rfl]
  exact Steps.refl _
/-- what holds at the law's entry: the machine, the code, the tables' words (any of lw_tbl by 'hts w (by decide +kernel)'), the script of L ints xs at the cell b, what the Statement gives of the start (any of its parts by flat_of_before) -/
def lw_At (p : Program) (s : State) (m : MethodId) (meth : Method) (c : Code) (b L : Nat) (xs : Nat → Int32) : Prop :=
  p.tables.exec = Jvm.exec ∧ c.code = code ∧ meth.sig.returnType = ret ∧ c.maxLocals = 7 ∧ s.vm.findClass R_law = some m.cls ∧ (∀ w ∈ lw_tbl, w.before #[Value.ref b] s = true) ∧ va_X b L xs s s.heap ∧ b < s.heap.size ∧ meth.locks = false ∧ (Jvm.Cond.and given_1 narrow_1).before #[Value.ref b] s = true

/-! the law's loop, and its start -/
set_option maxHeartbeats 8000000 in
set_option maxRecDepth 100000 in
theorem law_turn {l : Launch} {D : va_G} {T : Nat → ClassId} {B : Nat} {Z : State → Prop} {p : Program} {e : Env} {s : State} {m : MethodId} {below : List Frame} {meth : Method} {c : Code} {b Ln : Nat} {xs : Nat → Int32} {Inv : List (Nat × Nat) → zM → Prop} (hp : zPure Inv) (hst : l.stackTraces = false) (hex : ∀ g, zEX (zw l D T B Z g)) (hz : ∀ g, zSZ (zw l D T B Z g)) (hr : meth.sig.returnType = ret) (hlocks : meth.locks = false) (hX : va_X b Ln xs s s.heap) (hbl : b < s.heap.size) (hB : B = s.heap.size) (hLn : Ln ≤ 3072) {S : List (Nat × Nat)} {M : zM} {H : Heap} {locs : List Loc} {cells slots i g : Nat} {lsr : Array Slot} {Q : State → Prop} (hA : zLA (zw l D T B Z g) RL code 7 p s m #[Value.ref b] c) (hD : zLD (zw l D T B Z g) s room_1 (S, M) H locs cells slots) (hce : cells ≤ 1000 + i ∧ slots ≤ 20000 + 6 * i) (hi6 : i + 6 ≤ Ln) (hl : lv_has lsr 7 (zll B b i)) (hI : Inv S M)
    (kk : ∀ M' H' locs' cells' slots' lsr', Inv S M' → zlS l D T B Z s S M' H' locs' cells' slots' (i + 6) → lv_has lsr' 7 (zll B b i) → W p l e room_1 s m #[Value.ref b] below meth c H' locs' cells' slots' Q (F0 m 1522 lsr' [])) : W p l e room_1 s m #[Value.ref b] below meth c H locs cells slots Q (F0 m 33 lsr []) := by
  obtain ⟨hx, hb, -⟩ := id hA
  have hbA : ¬ B ≤ b := by omega
  refine lv_aload_n hx hb dL_law_33 rfl (lv_at hl 4 rfl) ?_
  refine lv_iload hx hb dL_law_34 (lv_at hl 0 rfl) ?_
  refine va_sld hx hb hX hbl hbA hD.2.1 (zl_in0 hi6 hLn) dL_law_36 ?_
  refine lv_bipush (v := 63) hx hb dL_law_37 (by decide) ?_
  refine lv_iand hx hb dL_law_39 ?_
  refine lv_topi (fun x ex => ?_)
  by_cases h0 : x = 0
  · refine lv_tableIn (tgt := 220) (off := 180) hx hb dL_law_40 (by rw [h0]; decide) (by rw [h0]; decide) (by rw [h0]; decide +kernel) (by decide) ?_
    exact zl_feed hp.2.2.1 hA hD hce hX hbl hbA hi6 hLn hl hI hp.2.1 kk
  by_cases h1 : x = 1
  · refine lv_tableIn (tgt := 293) (off := 253) hx hb dL_law_40 (by rw [h1]; decide) (by rw [h1]; decide) (by rw [h1]; decide +kernel) (by decide) ?_
    exact zl_text hp.2.2.2.1 (hz g) hA hD hce hX hbl hbA hi6 hLn hl hI hp.2.1 kk
  by_cases h2 : x = 2
  · refine lv_tableIn (tgt := 318) (off := 278) hx hb dL_law_40 (by rw [h2]; decide) (by rw [h2]; decide) (by rw [h2]; decide +kernel) (by decide) ?_
    exact zl_fault hp.2.2.2.2.1 hA hD hce hX hbl hbA hi6 hLn hl hI hp.2.1 kk
  by_cases h3 : x = 3
  · refine lv_tableIn (tgt := 343) (off := 303) hx hb dL_law_40 (by rw [h3]; decide) (by rw [h3]; decide) (by rw [h3]; decide +kernel) (by decide) ?_
    exact zl_named hp.2.2.2.2.2.1 hA hD hce hX hbl hbA hi6 hLn hl hI hp.2.1 kk
  by_cases h4 : x = 4
  · refine lv_tableIn (tgt := 380) (off := 340) hx hb dL_law_40 (by rw [h4]; decide) (by rw [h4]; decide) (by rw [h4]; decide +kernel) (by decide) ?_
    exact zl_trade hp.2.2.2.2.2.2.1 hst hex hA hD hce hX hbl hbA hi6 hLn hl hI hp.2.1 kk
  by_cases h5 : x = 5
  · refine lv_tableIn (tgt := 448) (off := 408) hx hb dL_law_40 (by rw [h5]; decide) (by rw [h5]; decide) (by rw [h5]; decide +kernel) (by decide) ?_
    exact zl_place hp.2.2.2.2.2.2.2.1 hA hD hce hX hbl hbA hi6 hLn hl hI hp.2.1 kk
  by_cases h6 : x = 6
  · refine lv_tableIn (tgt := 473) (off := 433) hx hb dL_law_40 (by rw [h6]; decide) (by rw [h6]; decide) (by rw [h6]; decide +kernel) (by decide) ?_
    exact zl_work hp.2.2.2.2.2.2.2.2.1 hA hD hce hX hbl hbA hi6 hLn hl hI hp.2.1 kk
  by_cases h7 : x = 7
  · refine lv_tableIn (tgt := 510) (off := 470) hx hb dL_law_40 (by rw [h7]; decide) (by rw [h7]; decide) (by rw [h7]; decide +kernel) (by decide) ?_
    exact zl_law hp.2.2.2.2.2.2.2.2.2.1 hA hD hce hX hbl hbA hi6 hLn hl hI hp.2.1 kk
  by_cases h8 : x = 8
  · refine lv_tableIn (tgt := 548) (off := 508) hx hb dL_law_40 (by rw [h8]; decide) (by rw [h8]; decide) (by rw [h8]; decide +kernel) (by decide) ?_
    exact zl_length hp.2.2.2.2.2.2.2.2.2.2.1 hA hD hce hX hbl hbA hi6 hLn hl hI hp.2.1 kk
  by_cases h9 : x = 9
  · refine lv_tableIn (tgt := 573) (off := 533) hx hb dL_law_40 (by rw [h9]; decide) (by rw [h9]; decide) (by rw [h9]; decide +kernel) (by decide) ?_
    exact zl_appoint hp.2.2.2.2.2.2.2.2.2.2.2.1 hA hD hce hX hbl hbA hi6 hLn hl hI hp.2.1 kk
  by_cases h10 : x = 10
  · refine lv_tableIn (tgt := 598) (off := 558) hx hb dL_law_40 (by rw [h10]; decide) (by rw [h10]; decide) (by rw [h10]; decide +kernel) (by decide) ?_
    exact zl_put hp.2.2.2.2.2.2.2.2.2.2.2.2.1 hA hD hce hX hbl hbA hi6 hLn hl hI hp.2.1 kk
  by_cases h11 : x = 11
  · refine lv_tableIn (tgt := 635) (off := 595) hx hb dL_law_40 (by rw [h11]; decide) (by rw [h11]; decide) (by rw [h11]; decide +kernel) (by decide) ?_
    exact zl_swap hp.2.2.2.2.2.2.2.2.2.2.2.2.2.1 hA hD hce hX hbl hbA hi6 hLn hl hI hp.2.1 kk
  by_cases h12 : x = 12
  · refine lv_tableIn (tgt := 672) (off := 632) hx hb dL_law_40 (by rw [h12]; decide) (by rw [h12]; decide) (by rw [h12]; decide +kernel) (by decide) ?_
    exact zl_go hp.2.2.2.2.2.2.2.2.2.2.2.2.2.2.1 hA hD hce hX hbl hbA hi6 hLn hl hI hp.2.1 kk
  by_cases h13 : x = 13
  · refine lv_tableIn (tgt := 697) (off := 657) hx hb dL_law_40 (by rw [h13]; decide) (by rw [h13]; decide) (by rw [h13]; decide +kernel) (by decide) ?_
    exact zl_ahead hp.2.2.2.2.2.2.2.2.2.2.2.2.2.2.2.1 hA hD hce hX hbl hbA hi6 hLn hl hI hp.2.1 kk
  by_cases h14 : x = 14
  · refine lv_tableIn (tgt := 746) (off := 706) hx hb dL_law_40 (by rw [h14]; decide) (by rw [h14]; decide) (by rw [h14]; decide +kernel) (by decide) ?_
    exact zl_opener hp.2.2.2.2.2.2.2.2.2.2.2.2.2.2.2.2.1 hA hD hce hX hbl hbA hi6 hLn hl hI hp.2.1 kk
  by_cases h15 : x = 15
  · refine lv_tableIn (tgt := 771) (off := 731) hx hb dL_law_40 (by rw [h15]; decide) (by rw [h15]; decide) (by rw [h15]; decide +kernel) (by decide) ?_
    exact zl_longAt hp.2.2.2.2.2.2.2.2.2.2.2.2.2.2.2.2.2.1 hA hD hce hX hbl hbA hi6 hLn hl hI hp.2.1 kk
  by_cases h16 : x = 16
  · refine lv_tableIn (tgt := 796) (off := 756) hx hb dL_law_40 (by rw [h16]; decide) (by rw [h16]; decide) (by rw [h16]; decide +kernel) (by decide) ?_
    exact zl_doneWhen hp.2.2.2.2.2.2.2.2.2.2.2.2.2.2.2.2.2.2.1 hA hD hce hX hbl hbA hi6 hLn hl hI hp.2.1 kk
  by_cases h17 : x = 17
  · refine lv_tableIn (tgt := 821) (off := 781) hx hb dL_law_40 (by rw [h17]; decide) (by rw [h17]; decide) (by rw [h17]; decide +kernel) (by decide) ?_
    exact zl_soon hp.2.2.2.2.2.2.2.2.2.2.2.2.2.2.2.2.2.2.2.1 hA hD hce hX hbl hbA hi6 hLn hl hI hp.2.1 kk
  by_cases h18 : x = 18
  · refine lv_tableIn (tgt := 846) (off := 806) hx hb dL_law_40 (by rw [h18]; decide) (by rw [h18]; decide) (by rw [h18]; decide +kernel) (by decide) ?_
    exact zl_out hp.2.2.2.2.2.2.2.2.2.2.2.2.2.2.2.2.2.2.2.2.1 hA hD hce hX hbl hbA hi6 hLn hl hI hp.2.1 kk
  by_cases h19 : x = 19
  · refine lv_tableIn (tgt := 871) (off := 831) hx hb dL_law_40 (by rw [h19]; decide) (by rw [h19]; decide) (by rw [h19]; decide +kernel) (by decide) ?_
    exact zl_missing hp.2.2.2.2.2.2.2.2.2.2.2.2.2.2.2.2.2.2.2.2.2.1 hA hD hce hX hbl hbA hi6 hLn hl hI hp.2.1 kk
  by_cases h20 : x = 20
  · refine lv_tableIn (tgt := 896) (off := 856) hx hb dL_law_40 (by rw [h20]; decide) (by rw [h20]; decide) (by rw [h20]; decide +kernel) (by decide) ?_
    exact zl_plan hp.2.2.2.2.2.2.2.2.2.2.2.2.2.2.2.2.2.2.2.2.2.2.1 hA hD hce hX hbl hbA hi6 hLn hl hI hp.2.1 kk
  by_cases h21 : x = 21
  · refine lv_tableIn (tgt := 921) (off := 881) hx hb dL_law_40 (by rw [h21]; decide) (by rw [h21]; decide) (by rw [h21]; decide +kernel) (by decide) ?_
    exact zl_best hp.2.2.2.2.2.2.2.2.2.2.2.2.2.2.2.2.2.2.2.2.2.2.2.1 hA hD hce hX hbl hbA hi6 hLn hl hI hp.2.1 kk
  by_cases h22 : x = 22
  · refine lv_tableIn (tgt := 958) (off := 918) hx hb dL_law_40 (by rw [h22]; decide) (by rw [h22]; decide) (by rw [h22]; decide +kernel) (by decide) ?_
    exact zl_fair hp.2.2.2.2.2.2.2.2.2.2.2.2.2.2.2.2.2.2.2.2.2.2.2.2.1 hA hD hce hX hbl hbA hi6 hLn hl hI hp.2.1 kk
  by_cases h23 : x = 23
  · refine lv_tableIn (tgt := 983) (off := 943) hx hb dL_law_40 (by rw [h23]; decide) (by rw [h23]; decide) (by rw [h23]; decide +kernel) (by decide) ?_
    exact zl_pairs hp.2.2.2.2.2.2.2.2.2.2.2.2.2.2.2.2.2.2.2.2.2.2.2.2.2.1 hA hD hce hX hbl hbA hi6 hLn hl hI hp.2.1 kk
  by_cases h24 : x = 24
  · refine lv_tableIn (tgt := 996) (off := 956) hx hb dL_law_40 (by rw [h24]; decide) (by rw [h24]; decide) (by rw [h24]; decide +kernel) (by decide) ?_
    exact zl_power hp.2.2.2.2.2.2.2.2.2.2.2.2.2.2.2.2.2.2.2.2.2.2.2.2.2.2.1 hA hD hce hX hbl hbA hi6 hLn hl hI hp.2.1 kk
  by_cases h25 : x = 25
  · refine lv_tableIn (tgt := 1021) (off := 981) hx hb dL_law_40 (by rw [h25]; decide) (by rw [h25]; decide) (by rw [h25]; decide +kernel) (by decide) ?_
    exact zl_even hp.2.2.2.2.2.2.2.2.2.2.2.2.2.2.2.2.2.2.2.2.2.2.2.2.2.2.2.1 hA hD hce hX hbl hbA hi6 hLn hl hI hp.2.1 kk
  by_cases h26 : x = 26
  · refine lv_tableIn (tgt := 1046) (off := 1006) hx hb dL_law_40 (by rw [h26]; decide) (by rw [h26]; decide) (by rw [h26]; decide +kernel) (by decide) ?_
    exact zl_rare hp.2.2.2.2.2.2.2.2.2.2.2.2.2.2.2.2.2.2.2.2.2.2.2.2.2.2.2.2.1 hA hD hce hX hbl hbA hi6 hLn hl hI hp.2.1 kk
  by_cases h27 : x = 27
  · refine lv_tableIn (tgt := 1059) (off := 1019) hx hb dL_law_40 (by rw [h27]; decide) (by rw [h27]; decide) (by rw [h27]; decide +kernel) (by decide) ?_
    exact zl_rests hp.2.2.2.2.2.2.2.2.2.2.2.2.2.2.2.2.2.2.2.2.2.2.2.2.2.2.2.2.2.1 hA hD hce hX hbl hbA hi6 hLn hl hI hp.2.1 kk
  by_cases h28 : x = 28
  · refine lv_tableIn (tgt := 1096) (off := 1056) hx hb dL_law_40 (by rw [h28]; decide) (by rw [h28]; decide) (by rw [h28]; decide +kernel) (by decide) ?_
    exact zl_rest hp.2.2.2.2.2.2.2.2.2.2.2.2.2.2.2.2.2.2.2.2.2.2.2.2.2.2.2.2.2.2.1 hA hD hce hX hbl hbA hi6 hLn hl hI hp.2.1 kk
  by_cases h29 : x = 29
  · refine lv_tableIn (tgt := 1145) (off := 1105) hx hb dL_law_40 (by rw [h29]; decide) (by rw [h29]; decide) (by rw [h29]; decide +kernel) (by decide) ?_
    exact zl_sure hp.2.2.2.2.2.2.2.2.2.2.2.2.2.2.2.2.2.2.2.2.2.2.2.2.2.2.2.2.2.2.2.1 hA hD hce hX hbl hbA hi6 hLn hl hI hp.2.1 kk
  by_cases h30 : x = 30
  · refine lv_tableIn (tgt := 1183) (off := 1143) hx hb dL_law_40 (by rw [h30]; decide) (by rw [h30]; decide) (by rw [h30]; decide +kernel) (by decide) ?_
    exact zl_note hp.2.2.2.2.2.2.2.2.2.2.2.2.2.2.2.2.2.2.2.2.2.2.2.2.2.2.2.2.2.2.2.2.1 hA hD hce hX hbl hbA hi6 hLn hl hI hp.2.1 kk
  by_cases h31 : x = 31
  · refine lv_tableIn (tgt := 1248) (off := 1208) hx hb dL_law_40 (by rw [h31]; decide) (by rw [h31]; decide) (by rw [h31]; decide +kernel) (by decide) ?_
    exact zl_strike hp.2.2.2.2.2.2.2.2.2.2.2.2.2.2.2.2.2.2.2.2.2.2.2.2.2.2.2.2.2.2.2.2.2.1 hA hD hce hX hbl hbA hi6 hLn hl hI hp.2.1 kk
  by_cases h32 : x = 32
  · refine lv_tableIn (tgt := 1273) (off := 1233) hx hb dL_law_40 (by rw [h32]; decide) (by rw [h32]; decide) (by rw [h32]; decide +kernel) (by decide) ?_
    exact zl_toldBy hp.2.2.2.2.2.2.2.2.2.2.2.2.2.2.2.2.2.2.2.2.2.2.2.2.2.2.2.2.2.2.2.2.2.2.1 hA hD hce hX hbl hbA hi6 hLn hl hI hp.2.1 kk
  by_cases h33 : x = 33
  · refine lv_tableIn (tgt := 1298) (off := 1258) hx hb dL_law_40 (by rw [h33]; decide) (by rw [h33]; decide) (by rw [h33]; decide +kernel) (by decide) ?_
    exact zl_hours hp.2.2.2.2.2.2.2.2.2.2.2.2.2.2.2.2.2.2.2.2.2.2.2.2.2.2.2.2.2.2.2.2.2.2.2.1 hA hD hce hX hbl hbA hi6 hLn hl hI hp.2.1 kk
  by_cases h34 : x = 34
  · refine lv_tableIn (tgt := 1323) (off := 1283) hx hb dL_law_40 (by rw [h34]; decide) (by rw [h34]; decide) (by rw [h34]; decide +kernel) (by decide) ?_
    exact zl_ask hp.2.2.2.2.2.2.2.2.2.2.2.2.2.2.2.2.2.2.2.2.2.2.2.2.2.2.2.2.2.2.2.2.2.2.2.2.1 hA hD hce hX hbl hbA hi6 hLn hl hI hp.2.1 kk
  by_cases h35 : x = 35
  · refine lv_tableIn (tgt := 1360) (off := 1320) hx hb dL_law_40 (by rw [h35]; decide) (by rw [h35]; decide) (by rw [h35]; decide +kernel) (by decide) ?_
    exact zl_chance hp.2.2.2.2.2.2.2.2.2.2.2.2.2.2.2.2.2.2.2.2.2.2.2.2.2.2.2.2.2.2.2.2.2.2.2.2.2.1 hA hD hce hX hbl hbA hi6 hLn hl hI hp.2.1 kk
  by_cases h36 : x = 36
  · refine lv_tableIn (tgt := 1409) (off := 1369) hx hb dL_law_40 (by rw [h36]; decide) (by rw [h36]; decide) (by rw [h36]; decide +kernel) (by decide) ?_
    exact zl_tried hp.2.2.2.2.2.2.2.2.2.2.2.2.2.2.2.2.2.2.2.2.2.2.2.2.2.2.2.2.2.2.2.2.2.2.2.2.2.2.1 hA hD hce hX hbl hbA hi6 hLn hl hI hp.2.1 kk
  by_cases h37 : x = 37
  · refine lv_tableIn (tgt := 1458) (off := 1418) hx hb dL_law_40 (by rw [h37]; decide) (by rw [h37]; decide) (by rw [h37]; decide +kernel) (by decide) ?_
    exact zl_undo hp.2.2.2.2.2.2.2.2.2.2.2.2.2.2.2.2.2.2.2.2.2.2.2.2.2.2.2.2.2.2.2.2.2.2.2.2.2.2.2.1 hA hD hce hX hbl hbA hi6 hLn hl hI hp.2.1 kk
  by_cases h38 : x = 38
  · refine lv_tableIn (tgt := 1471) (off := 1431) hx hb dL_law_40 (by rw [h38]; decide) (by rw [h38]; decide) (by rw [h38]; decide +kernel) (by decide) ?_
    exact zl_keep hp.2.2.2.2.2.2.2.2.2.2.2.2.2.2.2.2.2.2.2.2.2.2.2.2.2.2.2.2.2.2.2.2.2.2.2.2.2.2.2.2.1 hA hD hce hX hbl hbA hi6 hLn hl hI hp.2.1 kk
  by_cases h39 : x = 39
  · refine lv_tableIn (tgt := 1484) (off := 1444) hx hb dL_law_40 (by rw [h39]; decide) (by rw [h39]; decide) (by rw [h39]; decide +kernel) (by decide) ?_
    exact zl_back hp.2.2.2.2.2.2.2.2.2.2.2.2.2.2.2.2.2.2.2.2.2.2.2.2.2.2.2.2.2.2.2.2.2.2.2.2.2.2.2.2.2.1 hA hD hce hX hbl hbA hi6 hLn hl hI hp.2.1 kk
  by_cases h40 : x = 40
  · refine lv_tableIn (tgt := 1497) (off := 1457) hx hb dL_law_40 (by rw [h40]; decide) (by rw [h40]; decide) (by rw [h40]; decide +kernel) (by decide) ?_
    exact zl_count hp.2.2.2.2.2.2.2.2.2.2.2.2.2.2.2.2.2.2.2.2.2.2.2.2.2.2.2.2.2.2.2.2.2.2.2.2.2.2.2.2.2.2 hA hD hce hX hbl hbA hi6 hLn hl hI hp.2.1 kk
  refine lv_tableOut (tgt := 1522) hx hb dL_law_40 (by have a0 := lv_neT (k := 0) h0 (a := 0) (by decide); have a1 := lv_neT (k := 1) h1 (a := 1) (by decide); have a2 := lv_neT (k := 2) h2 (a := 2) (by decide); have a3 := lv_neT (k := 3) h3 (a := 3) (by decide); have a4 := lv_neT (k := 4) h4 (a := 4) (by decide); have a5 := lv_neT (k := 5) h5 (a := 5) (by decide); have a6 := lv_neT (k := 6) h6 (a := 6) (by decide); have a7 := lv_neT (k := 7) h7 (a := 7) (by decide); have a8 := lv_neT (k := 8) h8 (a := 8) (by decide); have a9 := lv_neT (k := 9) h9 (a := 9) (by decide); have a10 := lv_neT (k := 10) h10 (a := 10) (by decide); have a11 := lv_neT (k := 11) h11 (a := 11) (by decide); have a12 := lv_neT (k := 12) h12 (a := 12) (by decide); have a13 := lv_neT (k := 13) h13 (a := 13) (by decide); have a14 := lv_neT (k := 14) h14 (a := 14) (by decide); have a15 := lv_neT (k := 15) h15 (a := 15) (by decide); have a16 := lv_neT (k := 16) h16 (a := 16) (by decide); have a17 := lv_neT (k := 17) h17 (a := 17) (by decide); have a18 := lv_neT (k := 18) h18 (a := 18) (by decide); have a19 := lv_neT (k := 19) h19 (a := 19) (by decide); have a20 := lv_neT (k := 20) h20 (a := 20) (by decide); have a21 := lv_neT (k := 21) h21 (a := 21) (by decide); have a22 := lv_neT (k := 22) h22 (a := 22) (by decide); have a23 := lv_neT (k := 23) h23 (a := 23) (by decide); have a24 := lv_neT (k := 24) h24 (a := 24) (by decide); have a25 := lv_neT (k := 25) h25 (a := 25) (by decide); have a26 := lv_neT (k := 26) h26 (a := 26) (by decide); have a27 := lv_neT (k := 27) h27 (a := 27) (by decide); have a28 := lv_neT (k := 28) h28 (a := 28) (by decide); have a29 := lv_neT (k := 29) h29 (a := 29) (by decide); have a30 := lv_neT (k := 30) h30 (a := 30) (by decide); have a31 := lv_neT (k := 31) h31 (a := 31) (by decide); have a32 := lv_neT (k := 32) h32 (a := 32) (by decide); have a33 := lv_neT (k := 33) h33 (a := 33) (by decide); have a34 := lv_neT (k := 34) h34 (a := 34) (by decide); have a35 := lv_neT (k := 35) h35 (a := 35) (by decide); have a36 := lv_neT (k := 36) h36 (a := 36) (by decide); have a37 := lv_neT (k := 37) h37 (a := 37) (by decide); have a38 := lv_neT (k := 38) h38 (a := 38) (by decide); have a39 := lv_neT (k := 39) h39 (a := 39) (by decide); have a40 := lv_neT (k := 40) h40 (a := 40) (by decide); omega) (by decide) ?_
  exact kk M H locs cells slots lsr hI ⟨g, hD, by omega, by omega⟩ hl
theorem law_cond {i Ln : Nat} (hi : i ≤ Ln + 6) (hLn : Ln ≤ 3072) : (nI Ln - 6 < nI i) ↔ Ln < i + 6 := by
  rw [Int32.lt_iff_toInt_lt, show (6 : Int32) = nI 6 from rfl, pk_sub_toInt (by omega) (by omega), nI_toInt (by omega)]
  omega
set_option maxHeartbeats 4000000 in
set_option maxRecDepth 100000 in
theorem law_loop {l : Launch} {D : va_G} {T : Nat → ClassId} {B : Nat} {Z : State → Prop} {p : Program} {e : Env} {s : State} {m : MethodId} {below : List Frame} {meth : Method} {c : Code} {b Ln : Nat} {xs : Nat → Int32} {Inv : List (Nat × Nat) → zM → Prop} (hp : zPure Inv) (hst : l.stackTraces = false) (hex : ∀ g, zEX (zw l D T B Z g)) (hz : ∀ g, zSZ (zw l D T B Z g)) (hr : meth.sig.returnType = ret) (hlocks : meth.locks = false) (hX : va_X b Ln xs s s.heap) (hbl : b < s.heap.size) (hB : B = s.heap.size) (hLn : Ln ≤ 3072) (hA : ∀ g, zLA (zw l D T B Z g) RL code 7 p s m #[Value.ref b] c) (S : List (Nat × Nat)) : ∀ (n i : Nat) (M : zM) (H : Heap) (locs : List Loc) (cells slots g : Nat) (lsr : Array Slot), i ≤ Ln + 6 → Ln + 7 < n + i → zLD (zw l D T B Z g) s room_1 (S, M) H locs cells slots → cells ≤ 1000 + i ∧ slots ≤ 20000 + 6 * i → lv_has lsr 7 (zll B b i) → Inv S M →
    W p l e room_1 s m #[Value.ref b] below meth c H locs cells slots (lw_Z below #[Value.ref b] s) (F0 m 23 lsr []) := by
  intro n
  induction n with
  | zero => intro i M H locs cells slots g lsr h1 h2; omega
  | succ n ih =>
    intro i M H locs cells slots g lsr h1 h2 hD hce hl hI
    obtain ⟨hx, hb, -⟩ := id (hA g)
    have hbA : ¬ B ≤ b := by omega
    refine lv_iload hx hb dL_law_23 (lv_at hl 0 rfl) ?_
    refine lv_aload_n hx hb dL_law_25 rfl (lv_at hl 4 rfl) ?_
    refine va_slen hx hb hX hbl hbA hD.2.1 dL_law_26 ?_
    refine lv_bipush (v := 6) hx hb dL_law_27 (by decide) ?_
    refine lv_isub hx hb dL_law_29 ?_
    refine lv_icmp_gt (tgt := 1528) hx hb dL_law_30 (by decide) (fun _ => ?_) (fun h => ?_)
    · refine lv_iconst (v := 1) hx hb dL_law_1528 (by decide) ?_
      refine va_forget (fun q hq => by rw [← hB]; exact hD.2.1.2.2 q hq) ?_
      refine W.widen (k := 601024) (n := 7293034) (by omega) (by omega) ?_
      exact lw_ret hx hb hr hlocks dL_law_1529
    · have hi6 : i + 6 ≤ Ln := by
        have h3 : ¬ (nI Ln - 6 < nI i) := h
        rw [law_cond h1 hLn] at h3
        omega
      refine law_turn hp hst hex hz hr hlocks hX hbl hB hLn (hA g) hD hce hi6 hl hI (fun M' H' locs' cells' slots' lsr' hI' hS' hl' => ?_)
      obtain ⟨g', hD', hce'⟩ := hS'
      refine lv_iinc (k := 0) (v := nI (i + 6)) (lv' := zll B b (i + 6)) hx hb dL_law_1522 hl' rfl (nI_add i 6) (by decide) rfl (fun lsr2 hl2 => ?_)
      refine lv_goto (tgt := 23) hx hb dL_law_1525 (by decide) ?_
      exact ih (i + 6) M' H' locs' cells' slots' g' lsr2 (by omega) (by omega) hD' hce' hl2 hI'
