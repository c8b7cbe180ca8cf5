/-! pure part 85: text: the class reads -/
theorem c_clr {S : List (Nat × Nat)} {M : zM} {t : Nat} (hS : zShp S) (hR : pRf M.2.2) (ht : t = 43 ∨ t = 75) : ∃ M' : zM, gX10_clear S t M = some M' ∧ M'.2 = M.2 ∧ (∀ x y, x ≠ t → ¬ (x = t + 21 ∧ y = 6) → x ≠ t + 27 → x ≠ t + 29 → M'.1 x y = M.1 x y) ∧ (M'.1 t 0 = 0 ∧ M'.1 t 1 = 0 ∧ M'.1 t 5 = 0 ∧ M'.1 t 7 = 0 ∧ M'.1 t 10 = 0 ∧ M'.1 t 15 = 0 ∧ M'.1 t 16 = 0 ∧ M'.1 (t + 21) 6 = 0) ∧ ∀ r, r < 3 → M'.1 (t + 27) r = 0 ∧ M'.1 (t + 29) r = 0 := by
  have hT := pTs_of hS hR t (Or.inr ht)
  have F := tG hT
  have hu := pLw_of hS hR (t + 21) (by omega)
  obtain ⟨u0, ur0, ur1, ur2, ur3, -, -, up1, up3, up5, up7, -, -⟩ := id hu
  have e1 : gX1_clear S (t + 21) (zsI (zsI (zsI (zsI (zsI (zsI (zsI M t 0 0) t 1 0) t 5 0) t 7 0) t 10 0) t 15 0) t 16 0) = some (zfl (zfl (zsI (zsI (zsI (zsI (zsI (zsI (zsI (zsI M t 0 0) t 1 0) t 5 0) t 7 0) t 10 0) t 15 0) t 16 0) (t + 21) 6 0) (t + 21 + 5 + 1) 0 0 3) (t + 21 + 7 + 1) 0 0 3) := by
    have g2 : ∀ (ρ : Type) (M' : zM) (f : Nat → Option ρ), M'.2.2 = M.2.2 → zgR S M' (t + 21) 1 7 2 f = f (t + 21 + 5) := fun ρ M' f h => zgR_of u0 ur2 M' f h
    have g3 : ∀ (ρ : Type) (M' : zM) (f : Nat → Option ρ), M'.2.2 = M.2.2 → zgR S M' (t + 21) 1 7 3 f = f (t + 21 + 7) := fun ρ M' f h => zgR_of u0 ur3 M' f h
    have r5 : ∀ (ρ : Type) (o : Option ρ), zrc S (t + 21 + 5) 5 1 o = o := fun ρ o => zrc_ok up5.1
    have r7 : ∀ (ρ : Type) (o : Option ρ), zrc S (t + 21 + 7) 5 1 o = o := fun ρ o => zrc_ok up7.1
    have f5 : ∀ (ρ : Type) (M' : zM) (f : zM → Option ρ), M'.2.2 = M.2.2 → (gX5_fill S (t + 21 + 5) 0 M').bind f = f (zfl M' (t + 21 + 5 + 1) 0 0 3) := fun ρ M' f h => bind_of (e_fill (h.symm ▸ up5)) f
    have f7 : ∀ (ρ : Type) (M' : zM) (f : zM → Option ρ), M'.2.2 = M.2.2 → (gX5_fill S (t + 21 + 7) 0 M').bind f = f (zfl M' (t + 21 + 7 + 1) 0 0 3) := fun ρ M' f h => bind_of (e_fill (h.symm ▸ up7)) f
    have pI : ∀ (ρ : Type) (M' : zM) (v : Int32) (f : zM → Option ρ), zpI S M' (t + 21) 1 7 6 v f = f (zsI M' (t + 21) 6 v) := fun ρ M' v f => zpI_ok u0
    simp (disch := first | omega | simp only [qI2, qL2, qC2, qF2]) only [gX1_clear, ↓pI, ↓g2, ↓g3, ↓r5, ↓r7, ↓f5, ↓f7]
  have hrc : ∀ (ρ : Type) (o : Option ρ), zrc S (t + 21) 1 7 o = o := fun ρ o => zrc_ok u0
  refine ⟨zfl (zfl (zsI (zsI (zsI (zsI (zsI (zsI (zsI (zsI M t 0 0) t 1 0) t 5 0) t 7 0) t 10 0) t 15 0) t 16 0) (t + 21) 6 0) (t + 21 + 5 + 1) 0 0 3) (t + 21 + 7 + 1) 0 0 3, ?_, rfl, fun x y q1 q2 q3 q4 => ?_, ⟨?_, ?_, ?_, ?_, ?_, ?_, ?_, ?_⟩, fun r hr => ⟨?_, ?_⟩⟩
  rotate_left
  · rw [zfl_ne (by omega), zfl_ne (by omega), zsI_ne (by omega), zsI_ne (by omega), zsI_ne (by omega), zsI_ne (by omega), zsI_ne (by omega), zsI_ne (by omega), zsI_ne (by omega), zsI_ne (by omega)]
  · rw [zfl_ne (by omega), zfl_ne (by omega), zsI_ne (by omega), zsI_ne (by omega), zsI_ne (by omega), zsI_ne (by omega), zsI_ne (by omega), zsI_ne (by omega), zsI_ne (by omega), zsI_at]
  · rw [zfl_ne (by omega), zfl_ne (by omega), zsI_ne (by omega), zsI_ne (by omega), zsI_ne (by omega), zsI_ne (by omega), zsI_ne (by omega), zsI_ne (by omega), zsI_at]
  · rw [zfl_ne (by omega), zfl_ne (by omega), zsI_ne (by omega), zsI_ne (by omega), zsI_ne (by omega), zsI_ne (by omega), zsI_ne (by omega), zsI_at]
  · rw [zfl_ne (by omega), zfl_ne (by omega), zsI_ne (by omega), zsI_ne (by omega), zsI_ne (by omega), zsI_ne (by omega), zsI_at]
  · rw [zfl_ne (by omega), zfl_ne (by omega), zsI_ne (by omega), zsI_ne (by omega), zsI_ne (by omega), zsI_at]
  · rw [zfl_ne (by omega), zfl_ne (by omega), zsI_ne (by omega), zsI_ne (by omega), zsI_at]
  · rw [zfl_ne (by omega), zfl_ne (by omega), zsI_ne (by omega), zsI_at]
  · rw [zfl_ne (by omega), zfl_ne (by omega), zsI_at]
  · rw [zfl_ne (by omega)]
    exact zfl_at hr
  · exact zfl_at hr
  · simp (disch := first | omega | simp only [qI2, qL2, qC2, qF2]) only [gX10_clear, ↓F, ↓hrc, ↓bind_of e1]
/-- what the class reads a text into: a spare -/
theorem c_rds {S : List (Nat × Nat)} {M : zM} {T : Nat → Nat} {n t : Nat} {r : (Nat × Nat) ⊕ (zEn × Nat)} (hS : zShp S) (hR : pRf M.2.2) (ht : t = 43 ∨ t = 75) (hn : n ≤ 700) (hT : ∀ j, j < n → M.1 2 j = nI (T j) ∧ T j < 256) (hW : cWd M.1) (hr : readS T n (n + 1) (tokS T n 0) E00 false false 0 = some r) :
    ∃ (v : Int32) (M' : zM), gX3_reads S 3 1 (nI n) t M = some (v, M') ∧ M'.2.2 = u2 (u2 M.2.2 3 1 (some t)) 4 1 (some 1) ∧ (∀ x y, ¬ cPq t x y → ¬ (x = 4 ∧ y = 2) → M'.1 x y = M.1 x y) ∧ (∀ f p, r = .inl (f, p) → v = 0 ∧ M'.1 3 2 = nI f ∧ M'.1 3 3 = nI p) ∧ (∀ E' ln', r = .inr (E', ln') → v = 1 ∧ wfE E' ∧ cDr M'.1 t E' ∧ M'.1 t 0 = nI ln' ∧ M'.1 3 2 = 0) := by
  have hR1 : pRf (zsR M 3 1 (some t)).2.2 := pRf_u2 hR (by decide +kernel)
  have hR2 : pRf (u2 (u2 M.2.2 3 1 (some t)) 4 1 (some 1)) := pRf_u2 hR1 (by decide +kernel)
  obtain ⟨Mc, a1, a2, a3, ⟨z0, z1, z5, z7, z10, z15, z16, z6⟩, a5⟩ := c_clr (M := zsR M 3 1 (some t)) hS hR1 ht
  have ac : Mc.2.2 = u2 M.2.2 3 1 (some t) := congrArg Prod.snd a2
  have hT1 := pTs_of hS hR1 t (Or.inr ht)
  have P := cP hS hR1
  have x0 : cTx S (zsI (zsI (zsR (zsI (zsI (zsI (zsI Mc 3 2 0) 3 4 0) 3 5 0) 3 9 0) 4 1 (some 1)) 4 2 (nI n)) 4 3 0).2.2 (zsI (zsI (zsR (zsI (zsI (zsI (zsI Mc 3 2 0) 3 4 0) 3 5 0) 3 9 0) 4 1 (some 1)) 4 2 (nI n)) 4 3 0).1 T n := by
    refine ⟨⟨hS, ?_, (show u2 Mc.2.2 4 1 (some 1) 4 1 = some 1 from u2_at)⟩, ?_, hn, fun j hj => ⟨?_, (hT j hj).2⟩, fun j hj => ?_⟩
    · show pRf (u2 Mc.2.2 4 1 (some 1))
      rw [ac]
      exact hR2
    · rw [zsI_ne (by omega), zsI_at]
    · rw [zsI_ne (by omega), zsI_ne (by omega)]
      show (zsI (zsI (zsI (zsI Mc 3 2 0) 3 4 0) 3 5 0) 3 9 0).1 2 j = _
      rw [zsI_ne (by omega), zsI_ne (by omega), zsI_ne (by omega), zsI_ne (by omega), a3 2 j (by omega) (by omega) (by omega) (by omega)]
      exact (hT j hj).1
    · rw [zsI_ne (by omega), zsI_ne (by omega)]
      show (zsI (zsI (zsI (zsI Mc 3 2 0) 3 4 0) 3 5 0) 3 9 0).1 6 j = _
      rw [zsI_ne (by omega), zsI_ne (by omega), zsI_ne (by omega), zsI_ne (by omega), a3 6 j (by omega) (by omega) (by omega) (by omega)]
      exact hW j hj
  obtain ⟨M9, b1, b2, b3, b4⟩ := c_next x0 (Nat.zero_le n) (zsI_at _ _ _ _)
  have b2' : M9.2.2 = u2 (u2 M.2.2 3 1 (some t)) 4 1 (some 1) := b2.trans (show u2 Mc.2.2 4 1 (some 1) = _ by rw [ac])
  have o9 : ∀ x y, ¬ (x = 4 ∧ 2 ≤ y) → ¬ (x = 3 ∧ (y = 2 ∨ y = 4 ∨ y = 5 ∨ y = 9)) → M9.1 x y = Mc.1 x y := fun x y q1 q2 => by
    rw [b3 x y (by unfold q43; omega), zsI_ne (by omega), zsI_ne (by omega)]
    show (zsI (zsI (zsI (zsI Mc 3 2 0) 3 4 0) 3 5 0) 3 9 0).1 x y = _
    rw [zsI_ne (by omega), zsI_ne (by omega), zsI_ne (by omega), zsI_ne (by omega)]
  have o3 : ∀ y, M9.1 3 y = (zsI (zsI (zsI (zsI Mc 3 2 0) 3 4 0) 3 5 0) 3 9 0).1 3 y := fun y => by
    rw [b3 3 y (by unfold q43; omega), zsI_ne (by omega), zsI_ne (by omega)]
    rfl
  have zt : ∀ x y, t ≤ x → M9.1 x y = Mc.1 x y := fun x y q => o9 x y (by omega) (by omega)
  have pp : cPp S M9 T n t (tokS T n 0) E00 false false 0 := by
    refine ⟨⟨hS, b2'.symm ▸ hR2, ht, ?_⟩, b2.symm ▸ cTx_cg (fun x y q _ _ => b3 x y q) x0, b4, ⟨⟨(zt _ _ (by omega)).trans z1, (zt _ _ (by omega)).trans z5, (zt _ _ (by omega)).trans z7, (zt _ _ (by omega)).trans z10, (zt _ _ (by omega)).trans z15, (zt _ _ (by omega)).trans z16, (zt _ _ (by omega)).trans z6⟩, fun i hi => absurd hi (Nat.not_lt_zero _), fun i hi => absurd hi (Nat.not_lt_zero _), ⟨fun _ => 0, fun _ => 0, fun i hi => absurd hi (Nat.not_lt_zero _), fun _ _ => rfl⟩, fun i hi => absurd hi (Nat.not_lt_zero _), fun r hr => ⟨0, Nat.le_refl _, (zt _ _ (by omega)).trans (a5 r hr).1, (zt _ _ (by omega)).trans (a5 r hr).2, trivial⟩⟩, ?_, ?_, ?_, (zt _ _ (by omega)).trans z0, ?_⟩
    · rw [b2', u2_o (by omega)]
      exact u2_at
    · rw [o3, zsI_ne (by omega), zsI_ne (by omega), zsI_at]
      rfl
    · rw [o3, zsI_ne (by omega), zsI_at]
      rfl
    · rw [o3, zsI_at]
      rfl
    · rw [o3, zsI_ne (by omega), zsI_ne (by omega), zsI_ne (by omega), zsI_at]
  obtain ⟨v, M', d1, d2, d3, d4, d5⟩ := c_reads44 hn (n + 1) zfu 0 M9 (tokS T n 0) E00 false false 0 r pp (tokS_ok (Nat.zero_le _) hn) wf_00 (Nat.zero_le _) (by unfold zfu; omega) hr
  refine ⟨v, M', ?_, d2.trans b2', fun x y q1 q2 => ?_, d4, d5⟩
  · have gD : ∀ (ρ : Type) (f : Nat → Option ρ), zgR S (zsR M 3 1 (some t)) 3 3 10 1 f = f t := fun ρ f => zgR_ok ((hS 3 (by decide)).trans rfl) (show u2 M.2.2 3 1 (some t) 3 1 = some t from u2_at)
    have hrc : ∀ (ρ : Type) (o : Option ρ), zrc S t 10 18 o = o := fun ρ o => zrc_ok hT1.1
    have bg : gX9_begin S 4 1 (nI n) (zsI (zsI (zsI (zsI Mc 3 2 0) 3 4 0) 3 5 0) 3 9 0) = some M9 := by
      simp (disch := first | omega | simp only [qI2, qL2, qC2, qF2]) only [gX9_begin, ↓P, ↓bind_of b1]
    have d1' : gX3_reads_44 S zfu 3 (nI n) 0 M9 = some (v, M') := d1
    have g30 : ∀ (ρ : Type) (f : Nat → Option ρ), zgR S (zsI (zsI (zsI (zsI Mc 3 2 0) 3 4 0) 3 5 0) 3 9 0) 3 3 10 0 f = f 4 := fun ρ f => zgR_ok ((hS 3 (by decide)).trans rfl) (show Mc.2.2 3 0 = some 4 from by rw [ac]; exact pRg hR1 3 0 4 (by decide))
    simp (disch := first | omega | simp only [qI2, qL2, qC2, qF2]) only [gX3_reads, ↓P, ↓gD, ↓hrc, ↓bind_of a1, ↓g30, ↓bind_of bg, d1']
  · rw [d3 x y q1]
    unfold cPq at q1
    rw [o9 x y (by omega) (by omega), a3 x y (by omega) (by omega) (by omega) (by omega)]
    rfl

