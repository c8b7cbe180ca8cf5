/-! from the entry to the loop -/
theorem zW_nil (B : Nat) (T : Nat → ClassId) (D : va_G) (H : Heap) : va_P D vwCl (zW B T ([], zM0)) H := fun k q h => by simp [zW] at h
set_option maxHeartbeats 4000000 in
set_option maxRecDepth 100000 in
theorem whole_begin {Inv : List (Nat × Nat) → zM → Prop} (hp : zPure Inv) {p : Program} {e : Env} {s : State} {m : MethodId} {below : List Frame} {meth : Method} {c : Code} (l : Launch) (hflags : l.flags = flags0) {b L : Nat} {xs : Nat → Int32} (hL : L ≤ 3072) (C0 : lw_At p s m meth c b L xs) : W p l e room_1 s m #[Value.ref b] below meth c s.heap [] 0 0 (lw_Z below #[Value.ref b] s) (entryFrame m ([Value.ref b] : List Value).toArray 7) := by
  obtain ⟨hx, hb, hr, hml, hown, hts, hX, hbl, hlocks, hgv⟩ := C0
  obtain ⟨D, T, hK⟩ := zK_start hts
  have hst : l.stackTraces = false := by unfold Launch.stackTraces; rw [hflags]; decide +kernel
  have ht : ∀ x ∈ zG, x.before #[Value.ref b] s = true := fun x hx => hts x (List.mem_filter.mp hx).1
  have hA : ∀ g, zLA (zw l D T s.heap.size (zZ s.heap.size) g) RL code 7 p s m #[Value.ref b] c := fun g => ⟨hx, hb, hml, hown, ht, hK, zN_start hts, zZ_start hts hgv, zZ_ok _ _ _ _ _, Nat.le_refl _⟩
  obtain ⟨S1, S2, M1, M2, e1, h1, h1s, e2, h2, h2s, h2z, hI⟩ := hp.1
  have hD : zLD (zw l D T s.heap.size (zZ s.heap.size) 0) s room_1 ([], zM0) s.heap [] 0 0 := ⟨zW_nil _ _ _ _, va_S.rf, by show s.heap.size = s.heap.size + 0 + 0; omega, Nat.le_of_ble_eq_true rfl, Nat.le_of_ble_eq_true rfl⟩
  have hl := lv_entry ([.ref b]) (n := 7) (Nat.le_of_ble_eq_true rfl)
  rw [lg_entry_eq]
  generalize (lg_sl ([.ref b]) ++ List.replicate (7 - (lg_sl ([.ref b])).length) Slot.unset).toArray = lsr at hl ⊢
  have hl : lv_has lsr 7 [(0, .ref b)] := hl
  refine zl_new (w := zw l D T s.heap.size (zZ s.heap.size) 0) (S := []) (M := zM0) (rest := []) (cc := code) (nL := 7) rfl rfl (hA 0) hD zc11 zg_25 zg_26 zg_1 ⟨Nat.le_of_ble_eq_true rfl, Nat.le_of_ble_eq_true rfl⟩ dL_law_0 (fun H hD => ?_)
  refine lv_dup hx hb dL_law_3 rfl ?_
  refine zl_ctor (w := zw l D T s.heap.size (zZ s.heap.size) 0) (S := [(11, 14)]) (M := zNw zM0 0) (k := 0) (as := []) (rest := [.ref (s.heap.size + 0)]) (cc := code) (nL := 7) (hA 0) hD (c_X11_init _ (zZ_SZ _ _ _ _ _) rfl 0 [(11, 14)] (zNw zM0 0)) e1 (by show 1 ≤ S1.length; omega) (by show 14 ≤ zsl S1; omega) ⟨by show S1.length ≤ 601024; omega, ?_⟩ mc_X11_init rfl zg_27 ⟨Nat.le_of_ble_eq_true rfl, Nat.le_of_ble_eq_true rfl⟩ hl.1 (Nat.le_of_ble_eq_true rfl) dL_law_4 (fun H locs hD => ?_)
  · show zsl S1 ≤ 7293034
    have h5 : zsl (S1 ++ [(12, 66)]) = zsl S1 + 66 := zsl_app S1 12 66
    omega
  have h5 : zsl (S1 ++ [(12, 66)]) = zsl S1 + 66 := zsl_app S1 12 66
  have h6 : (S1 ++ [(12, 66)]).length = 307 := by simp [h1]
  refine lv_astore_n (lv' := [(1, .ref (s.heap.size + 0)), (0, .ref b)]) hx hb dL_law_7 rfl hl (by decide) rfl (fun lsr hl => ?_)
  refine zl_new (w := zw l D T s.heap.size (zZ s.heap.size) 0) (S := S1) (M := M1) (rest := []) (cc := code) (nL := 7) rfl rfl (hA 0) hD zc12 zg_1336 zg_1337 zg_18 ⟨by show S1.length + 1 ≤ 601024; omega, by show zsl S1 + 66 ≤ 7293034; omega⟩ dL_law_8 (fun H hD => ?_)
  refine lv_dup hx hb dL_law_11 rfl ?_
  rw [show S1.length + 1 = (S1 ++ [(12, 66)]).length by simp, ← h5] at hD ⊢
  rw [h1] at hD ⊢
  refine zl_ctor (w := zw l D T s.heap.size (zZ s.heap.size) 0) (S := S1 ++ [(12, 66)]) (M := zNw M1 306) (k := 306) (as := []) (rest := [.ref (s.heap.size + 306)]) (cc := code) (nL := 7) (hA 0) hD (c_X12_init _ (zZ_SZ _ _ _ _ _) rfl 306 (S1 ++ [(12, 66)]) (zNw M1 306)) e2 (by show (S1 ++ [(12, 66)]).length ≤ S2.length; omega) h2s ⟨by show S2.length ≤ 601024; omega, by show zsl S2 ≤ 7293034; omega⟩ mc_X12_init rfl zg_1338 ⟨Nat.le_of_ble_eq_true rfl, Nat.le_of_ble_eq_true rfl⟩ hl.1 (Nat.le_of_ble_eq_true rfl) dL_law_12 (fun H locs hD => ?_)
  refine lv_astore_n (lv' := [(2, .ref (s.heap.size + 306)), (1, .ref (s.heap.size + 0)), (0, .ref b)]) hx hb dL_law_15 rfl hl (by decide) rfl (fun lsr hl => ?_)
  refine lv_iconst (v := 1) hx hb dL_law_16 (by decide) ?_
  refine zl_newL (w := zw l D T s.heap.size (zZ s.heap.size) 0) (S := S2) (M := M2) (x := 1) (rest := []) (cc := code) (nL := 7) rfl rfl (hA 0) hD (by decide) (by decide) ⟨by show S2.length + 1 ≤ 601024; omega, by show zsl S2 + 1 ≤ 7293034; omega⟩ dL_law_17 (fun H hD => ?_)
  rw [h2] at hD ⊢
  refine lv_astore_n (lv' := [(3, .ref (s.heap.size + 348)), (2, .ref (s.heap.size + 306)), (1, .ref (s.heap.size + 0)), (0, .ref b)]) hx hb dL_law_19 rfl hl (by decide) rfl (fun lsr hl => ?_)
  refine lv_iconst (v := 0) hx hb dL_law_20 (by decide) ?_
  refine lv_istore (lv' := zll s.heap.size b 0) hx hb dL_law_21 hl (by decide) rfl (fun lsr hl => ?_)
  exact law_loop hp hst (fun g => zZ_EX _ _ _ _ _) (fun g => zZ_SZ _ _ _ _ _) hr hlocks hX hbl rfl hL hA (S2 ++ [(101, 1)]) (L + 8) 0 (zNw M2 348) H _ _ _ 0 lsr (by omega) (by omega) hD ⟨by omega, by show zsl S2 + 1 ≤ 20000 + 6 * 0; omega⟩ hl hI
