/-! pure part 88: P_init, P_shape -/
theorem inv_0 {S : List (Nat × Nat)} {M : zM} (hS : zShp S) (hR : pRf M.2.2) (h3 : M.2.2 0 3 = some 43) (h4 : M.2.2 0 4 = some 75) (hw : ∀ j, j < 20 → M.1 6 j = nI (wdC j)) (h313 : ∀ d, d < 100 → M.1 313 d = -1) (hc : ∀ q ∈ inTc, M.1 q.1 q.2.1 = q.2.2) (hm : ∀ q ∈ inTm, M.1 q.1 q.2.1 = q.2.2) : zInv S M := by
  have c : ∀ k j v, (k, j, v) ∈ inTc → M.1 k j = v := fun k j v h => hc (k, j, v) h
  have m : ∀ k j v, (k, j, v) ∈ inTm → M.1 k j = v := fun k j v h => hm (k, j, v) h
  clear hc hm
  have c3 : ∀ k i, (k = 70 ∨ k = 72) → i < 3 → M.1 k i = 0 := by
    intro k i hk hi
    rcases hk with rfl | rfl <;> rcases (show i = 0 ∨ i = 1 ∨ i = 2 by omega) with rfl | rfl | rfl <;> exact c _ _ _ (by decide +kernel)
  have c6 : ∀ k i, (k = 111 ∨ k = 113) → i < 6 → M.1 k i = 0 := by
    intro k i hk hi
    rcases hk with rfl | rfl <;> rcases (show i = 0 ∨ i = 1 ∨ i = 2 ∨ i = 3 ∨ i = 4 ∨ i = 5 by omega) with rfl | rfl | rfl | rfl | rfl | rfl <;> exact c _ _ _ (by decide +kernel)
  have c5 : ∀ k i, (k = 115) → i < 5 → M.1 k i = 0 := by
    intro k i hk hi
    subst hk
    rcases (show i = 0 ∨ i = 1 ∨ i = 2 ∨ i = 3 ∨ i = 4 by omega) with rfl | rfl | rfl | rfl | rfl <;> exact c _ _ _ (by decide +kernel)
  have m3 : ∀ k i, (k = 318 ∨ k = 319) → i < 3 → M.1 k i = 0 := by
    intro k i hk hi
    rcases hk with rfl | rfl <;> rcases (show i = 0 ∨ i = 1 ∨ i = 2 by omega) with rfl | rfl | rfl <;> exact m _ _ _ (by decide +kernel)
  have m6 : ∀ k i, (k = 332 ∨ k = 333) → i < 6 → M.1 k i = 0 := by
    intro k i hk hi
    rcases hk with rfl | rfl <;> rcases (show i = 0 ∨ i = 1 ∨ i = 2 ∨ i = 3 ∨ i = 4 ∨ i = 5 by omega) with rfl | rfl | rfl | rfl | rfl | rfl <;> exact m _ _ _ (by decide +kernel)
  have m5 : ∀ k i, (k = 335) → i < 5 → M.1 k i = 0 := by
    intro k i hk hi
    subst hk
    rcases (show i = 0 ∨ i = 1 ∨ i = 2 ∨ i = 3 ∨ i = 4 by omega) with rfl | rfl | rfl | rfl | rfl <;> exact m _ _ _ (by decide +kernel)
  have t1 : pTv M.1 43 E00 := ⟨⟨c 43 1 (0) (by decide +kernel), c 43 5 (0) (by decide +kernel), c 43 7 (0) (by decide +kernel), c 43 10 (0) (by decide +kernel), c 43 15 (0) (by decide +kernel), c 43 16 (0) (by decide +kernel), c 64 6 (0) (by decide +kernel)⟩, fun i hi => absurd hi (Nat.not_lt_zero _), fun i hi => absurd hi (Nat.not_lt_zero _), ⟨fun _ => 0, fun _ => 0, fun i hi => absurd hi (Nat.not_lt_zero _), fun _ _ => rfl⟩, fun i hi => absurd hi (Nat.not_lt_zero _), fun r hr => ⟨0, Nat.zero_le _, c3 70 r (by omega) hr, c3 72 r (by omega) hr, trivial⟩⟩
  have t2 : pSv M.1 107 E00 (K0 E00) (M.1 107 8) := ⟨⟨c 107 0 (0) (by decide +kernel), c 107 1 (0) (by decide +kernel), c 107 2 (0) (by decide +kernel), c 107 3 (-1) (by decide +kernel), c 107 4 (0) (by decide +kernel), c 107 5 (0) (by decide +kernel), c 107 6 (0) (by decide +kernel), c 107 7 (0) (by decide +kernel), rfl, c 107 9 (-1) (by decide +kernel), c 107 10 (0) (by decide +kernel)⟩, fun i hi => absurd hi (Nat.not_lt_zero _), fun i hi => ⟨c6 111 i (by omega) hi, c6 113 i (by omega) hi⟩, fun i hi => c5 115 i rfl hi⟩
  have cc : cIx S M 43 E00 (K0 E00) (M.1 107 8) none (0, fun _ _ => 0, fun _ => none) (0, none, fun _ => 0, fun _ => 0, fun _ => 0) (0, fun _ => 0) (0, M.1 3 3) := ⟨⟨hS, hR, Or.inl rfl, h3, h4⟩, t1, t2, ⟨c 0 8 (0) (by decide +kernel), fun q hq => (by cases hq)⟩, ⟨c 182 1 (0) (by decide +kernel), fun i hi => absurd hi (Nat.not_lt_zero _)⟩, ⟨c 169 6 (0) (by decide +kernel), c 169 7 (-1) (by decide +kernel), fun i hi => absurd hi (Nat.not_lt_zero _)⟩, ⟨c 0 1 (0) (by decide +kernel), fun i hi => absurd hi (Nat.not_lt_zero _)⟩, ⟨c 3 2 (0) (by decide +kernel), rfl, hw⟩⟩
  have t3 : pME M.1 E00 := ⟨⟨m 308 0 (0) (by decide +kernel), m 308 1 (0) (by decide +kernel), m 308 2 (0) (by decide +kernel), m 308 3 (0) (by decide +kernel), m 308 4 (0) (by decide +kernel), m 308 5 (0) (by decide +kernel), m 308 6 (0) (by decide +kernel)⟩, fun i hi => absurd hi (Nat.not_lt_zero _), fun i hi => absurd hi (Nat.not_lt_zero _), h313, fun i hi => absurd hi (Nat.not_lt_zero _), fun r hr => ⟨0, Nat.zero_le _, m3 318 r (by omega) hr, m3 319 r (by omega) hr, trivial⟩⟩
  have t4 : pMk M.1 0 E00 (K0 E00) := by
    refine ⟨⟨m 324 0 (0) (by decide +kernel), m 325 0 (0) (by decide +kernel), m 326 0 (0) (by decide +kernel), m 327 0 (-1) (by decide +kernel), m 328 0 (0) (by decide +kernel), m 329 0 (0) (by decide +kernel), m 330 0 (0) (by decide +kernel), m 331 0 (-1) (by decide +kernel)⟩, fun i hi => ?_, fun i hi => absurd hi (Nat.not_lt_zero _), fun i hi => ?_⟩
    · rw [show 6 * 0 + i = i by omega]
      exact ⟨m6 332 i (by omega) hi, m6 333 i (by omega) hi⟩
    · rw [show 5 * 0 + i = i by omega]
      exact m5 335 i rfl hi
  have mm : mIx S M E00 (K0 E00) none (0, fun _ _ => 0, fun _ => none) (0, none, fun _ => 0, fun _ => 0, fun _ => 0) (0, fun _ => 0) (0, M.1 3 3) := ⟨pMs_of hS hR, t3, t4, ⟨m 306 45 (0) (by decide +kernel), fun q hq => (by cases hq)⟩, ⟨m 306 46 (0) (by decide +kernel), fun i hi => absurd hi (Nat.not_lt_zero _)⟩, ⟨m 306 58 (0) (by decide +kernel), m 306 59 (-1) (by decide +kernel), fun i hi => absurd hi (Nat.not_lt_zero _)⟩, ⟨m 306 2 (0) (by decide +kernel), fun i hi => absurd hi (Nat.not_lt_zero _)⟩, ⟨m 306 26 (0) (by decide +kernel), m 306 27 (-1) (by decide +kernel)⟩, ⟨m 306 47 (0) (by decide +kernel), m 306 48 (-1) (by decide +kernel), m 306 49 (-1) (by decide +kernel)⟩⟩
  have aw : aWx E00 (K0 E00) none (0, fun _ _ => 0, fun _ => none) (0, none, fun _ => 0, fun _ => 0, fun _ => 0) (0, fun _ => 0) (0, M.1 3 3) := ⟨wf_00, wfK_to (wfK_K0 wf_00) (Nat.zero_le _), fun q hq => (by cases hq), ⟨Nat.zero_le _, fun i hi => absurd hi (Nat.not_lt_zero _)⟩, ⟨Nat.zero_le _, fun b hb => (by cases hb), fun i hi => absurd hi (Nat.not_lt_zero _)⟩, ⟨Nat.zero_le _, fun i hi => absurd hi (Nat.not_lt_zero _)⟩, Nat.zero_le _⟩
  exact ⟨(43, E00, K0 E00, M.1 107 8, none, (0, fun _ _ => 0, fun _ => none), (0, none, fun _ => 0, fun _ => 0, fun _ => 0), (0, fun _ => 0), (0, M.1 3 3)), aw, cc, mm⟩
theorem og {α β : Type} : ∀ (o : Option (α × β)) (h : o.isSome = true), o = some ((o.get h).1, (o.get h).2)
  | some _, _ => rfl
  | none, h => Bool.noConfusion h
theorem in1_e : in1 = some (in1S, in1M) := og in1 in1_s
theorem in2_e : in2 = some (in2S, (in2.get in2_s).2) := og in2 in2_s
theorem in1_f : gX11_init 0 [(11, 14)] (zNw zM0 0) = some (in1S, in1M) := by
  have h := in1_e
  unfold in1 at h
  exact h
theorem P_init : zP_init zInv := by
  obtain ⟨l1, l2, l3, l4, l5, l6⟩ := in_l
  have h1 : gX11_init 0 [(11, 14)] (zNw zM0 0) = some (in1S, in1M) := in1_f
  have h2 : gX12_init 306 (in1S ++ [(12, 66)]) (zNw in1M 306) = some (in2S, (in2.get in2_s).2) := in2_e
  have iv : zInv (in2S ++ [(101, 1)]) in2M := inv_0 (by rw [l6]; exact fun k _ => rfl) in_r.1 in_r.2.1 in_r.2.2 in_w in_3 in_c in_m
  exact ⟨in1S, in2S, in1M, (in2.get in2_s).2, h1, l1, l2, h2, l3, l4, l5, iv⟩
theorem P_shape : zP_shape zInv := by
  intro S M h
  obtain ⟨A, -, hc, -⟩ := h
  have hS : zShp S := hc.1.1
  exact ⟨(hS 0 (by decide)).trans rfl, (hS 306 (by decide)).trans rfl, (hS 348 (by decide)).trans rfl⟩
theorem pure_ok : zPure zInv := ⟨P_init, P_shape, P_feed, P_text, P_fault, P_named, P_trade, P_place, P_work, P_law, P_length, P_appoint, P_put, P_swap, P_go, P_ahead, P_opener, P_longAt, P_doneWhen, P_soon, P_out, P_missing, P_plan, P_best, P_fair, P_pairs, P_power, P_even, P_rare, P_rests, P_rest, P_sure, P_note, P_strike, P_toldBy, P_hours, P_ask, P_chance, P_tried, P_undo, P_keep, P_back, P_count⟩

