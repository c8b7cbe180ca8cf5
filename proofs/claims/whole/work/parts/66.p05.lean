/-! pure part 5: whose turn it is, the class -/
theorem bitA : ∀ t, t < 6 → ∀ m, m < 64 → ((nI m >>> (nI t &&& 31)) &&& 1 = if m.testBit t then 1 else 0) := by
  intro t ht m hm
  have h1 : nI m >>> (nI t &&& 31) = nI (m / 2 ^ t) := pk_shrN (by omega) (nI t &&& 31) t (by
    rcases (show t = 0 ∨ t = 1 ∨ t = 2 ∨ t = 3 ∨ t = 4 ∨ t = 5 by omega) with rfl | rfl | rfl | rfl | rfl | rfl <;> decide)
  have h2 : m / 2 ^ t ≤ m := Nat.div_le_self _ _
  rw [h1, pk_andN (m := 1) (by omega) 1 (by decide), Nat.pow_one]
  rw [Nat.testBit_eq_decide_div_mod_eq]
  rcases Nat.mod_two_eq_zero_or_one (m / 2 ^ t) with h | h <;> rw [h] <;> rfl
theorem bitB : ∀ m, m < 64 → ∀ t, t < 6 → nI m ||| ((1 : Int32) <<< (nI t &&& 31)) = nI (m ||| 2 ^ t) := by decide +kernel
theorem bitC {m t : Nat} (hm : m < 64) (ht : t < 6) : m ||| 2 ^ t < 64 := Nat.or_lt_two_pow (n := 6) hm (Nat.pow_lt_pow_right (by decide) ht)
theorem bitD {m t j : Nat} (h : (m ||| 2 ^ t).testBit j = true) : m.testBit j = true ∨ j = t := by
  rw [Nat.testBit_or, Bool.or_eq_true] at h
  rcases h with h | h
  · exact Or.inl h
  · rw [Nat.testBit_two_pow] at h
    have h2 : t = j := by simpa using h
    exact Or.inr h2.symm
theorem nmS_nu {E : zEn} {K : zKa} {hr : Nat → Nat} {t nx : Nat} {nu mi : Int32} : nmS E ((kDy K, nx, nu, mi, kDa K, kLa K), K.2) hr t = nmS E K hr t := rfl
theorem e_byTurns40 {S : List (Nat × Nat)} {R : Nat → Nat → Option Nat} {I : Nat → Nat → Int32} {c t h p : Nat} {E : zEn} {K : zKa} {le : Int32} {mo : zMo} (hC : pCs S R c t h) (hM : pCv I c h E mo) (hT : pTs S R t) (hV : pTv I t E) (hS : pSs S R p) (hK : pSv I p E K le) (hE : wfE E) (hu : ∀ j, mo.2.2.2.2 = some j → j < 6) (hL : ∀ i, i < eP E → kLs K i < eT E) :
    ∀ (k fu x m : Nat) (M : zM), M.2.2 = R → M.1 = I → k ≤ eP E → x < eP E → m < 64 → (∀ j, j < 6 → m.testBit j = true → wilS E K mo j = false) → k < fu →
    ∃ M', gX0_byTurns_40 S fu c p (nI x) (nI m) (nI (eP E - k)) M = some (oI ((trnS E K mo k x).map (fun q => q.1)), M') ∧ M'.2.2 = R ∧ (∀ a b, ¬ (a = p ∧ b = 1) → M'.1 a b = I a b) ∧ M'.1 p 1 = (match trnS E K mo k x with | some q => nI q.2 | none => I p 1) := by
  obtain ⟨c0, c1, c2, c3⟩ := id hC
  obtain ⟨s0, s11, -, -, -, sl, -⟩ := id hS
  have hP : eP E ≤ 12 := hE.2.1
  have hT6 : eT E ≤ 6 := hE.1
  have hkp : I p 10 = nI (eP E) := hK.1.2.2.2.2.2.2.2.2.2.2
  intro k
  induction k with
  | zero =>
    intro fu x m M hR hI hk hx hm hb hf
    obtain ⟨fu, rfl⟩ : ∃ f, fu = f + 1 := ⟨fu - 1, by omega⟩
    refine ⟨M, ?_, hR, fun a b _ => by rw [hI], by rw [hI]; rfl⟩
    simp only [gX0_byTurns_40]
    rw [zgI_ok s0, hI, hkp, Nat.sub_zero, if_pos (nI_le (Nat.le_refl _) (by omega))]
    rfl
  | succ k ih =>
    intro fu x m M hR hI hk hx hm hb hf
    obtain ⟨fu, rfl⟩ : ∃ f, fu = f + 1 := ⟨fu - 1, by omega⟩
    have hb1 : bhd (eP E) x < eP E := by unfold bhd; split <;> omega
    have hl : kLs K x < eT E := hL x hx
    have hsl : M.1 (p + 1 + 1) x = nI (kLs K x) := by rw [hI]; exact hK.2.1 x hx
    have e1 : nI (eP E - (k + 1)) + 1 = nI (eP E - k) := by rw [nI_1]; congr 1; omega
    simp only [gX0_byTurns_40]
    rw [zgI_ok s0, hI, hkp, if_neg (nI_ge (by omega) (by omega)), zgR_ok s0 (hR ▸ s11), zrc_ok sl.1, e_getR sl (by omega) M hR, Option.bind_some, hsl, zrc_ok s0, e_behind s0 (by rw [hI]; exact hkp) (by omega) hP, Option.bind_some, bitA _ (by omega) m hm, e1]
    by_cases hbit : m.testBit (kLs K x) = true
    · rw [if_neg (by rw [if_pos hbit]; decide)]
      obtain ⟨M', a1, a2, a3, a4⟩ := ih fu (bhd (eP E) x) m M hR hI (by omega) hb1 hm hb (by omega)
      have ht : trnS E K mo (k + 1) x = trnS E K mo k (bhd (eP E) x) := by
        show (if wilS E K mo (kLs K x) then _ else _) = _
        rw [hb _ (by omega) hbit]
        exact if_neg Bool.false_ne_true
      rw [ht]
      exact ⟨M', a1, a2, a3, a4⟩
    rw [if_pos (by rw [if_neg hbit]), zgI_ok c0, hI, hM.2.2.2.2, bitB m hm _ (by omega)]
    have hor : ∀ j, j < 6 → (m ||| 2 ^ kLs K x).testBit j = true → wilS E K mo (kLs K x) = false → wilS E K mo j = false := fun j hj h h2 => by
      rcases bitD h with h | h
      · exact hb j hj h
      · rw [h]; exact h2
    by_cases hun : nI (kLs K x) = oI mo.2.2.2.2
    · rw [if_pos hun]
      have hw : wilS E K mo (kLs K x) = false := by
        unfold wilS
        have : some (kLs K x) = mo.2.2.2.2 := by
          cases ho : mo.2.2.2.2 with
          | none => rw [ho] at hun; exact absurd hun (nI_m1ne (by omega))
          | some j => rw [ho] at hun; have hj := hu j ho; rw [(nI_eq (a := kLs K x) (b := j) (by omega) (by omega)).mp hun]
        rw [decide_eq_false (by simpa using this), Bool.false_and]
      obtain ⟨M', a1, a2, a3, a4⟩ := ih fu (bhd (eP E) x) (m ||| 2 ^ kLs K x) M hR hI (by omega) hb1 (bitC hm (by omega)) (fun j hj h => hor j hj h hw) (by omega)
      have ht : trnS E K mo (k + 1) x = trnS E K mo k (bhd (eP E) x) := by
        show (if wilS E K mo (kLs K x) then _ else _) = _
        rw [hw]
        exact if_neg Bool.false_ne_true
      rw [ht]
      exact ⟨M', a1, a2, a3, a4⟩
    rw [if_neg hun]
    obtain ⟨M2, b1, b2, b3⟩ := e_worth (M := M) (r := 2) (hR ▸ hC) (by rw [hI]; exact hM.1) (hR ▸ hT) (hI ▸ hV) (hR ▸ hS) (hI ▸ hK) hE (by decide) hl
    have hun2 : ¬ (some (kLs K x) = mo.2.2.2.2) := fun h => hun (by rw [← h]; rfl)
    rw [zrc_ok c0]
    show ∃ M', zb2 (gX0_worth S c p (nI 2) (nI (kLs K x)) M) _ = _ ∧ _
    rw [b1]
    simp only [zb2, Option.bind_some]
    by_cases hz : wS E (nmS E K mo.1 (kLs K x)) 2 = 0
    · rw [if_pos (cmp0.mpr hz)]
      have hw : wilS E K mo (kLs K x) = false := by
        unfold wilS
        rw [decide_eq_false (p := wS E (nmS E K mo.1 (kLs K x)) 2 ≠ 0) (fun h => h hz), Bool.and_false]
      obtain ⟨M', a1, a2, a3, a4⟩ := ih fu (bhd (eP E) x) (m ||| 2 ^ kLs K x) M2 (b3.trans hR) (b2.trans hI) (by omega) hb1 (bitC hm (by omega)) (fun j hj h => hor j hj h hw) (by omega)
      have ht : trnS E K mo (k + 1) x = trnS E K mo k (bhd (eP E) x) := by
        show (if wilS E K mo (kLs K x) then _ else _) = _
        rw [hw]
        exact if_neg Bool.false_ne_true
      rw [ht]
      exact ⟨M', a1, a2, a3, a4⟩
    · rw [if_neg (fun h => hz (cmp0.mp h)), zpI_ok s0]
      have hw : wilS E K mo (kLs K x) = true := by
        unfold wilS
        rw [decide_eq_true (p := some (kLs K x) ≠ mo.2.2.2.2) hun2, decide_eq_true (p := wS E (nmS E K mo.1 (kLs K x)) 2 ≠ 0) hz]
        rfl
      have ht : trnS E K mo (k + 1) x = some (kLs K x, bhd (eP E) x) := by
        show (if wilS E K mo (kLs K x) then _ else _) = _
        rw [hw]
        exact if_pos rfl
      rw [ht]
      refine ⟨zsI M2 p 1 (nI (bhd (eP E) x)), rfl, b3.trans hR, fun a b h => ?_, zsI_at _ _ _ _⟩
      rw [zsI_ne (by omega), b2, hI]
