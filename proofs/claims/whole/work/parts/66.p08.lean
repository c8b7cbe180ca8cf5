/-! pure part 8: a day of the class, its end and its whole -/
def leS (E : zEn) (mo : zMo) (K : zKa) (le : Int32) (who : Option Nat) : Int32 := match who with
  | none => le
  | some j => le + lenS E K mo j
theorem e_day47 {S : List (Nat × Nat)} {M : zM} {c t h p : Nat} {E : zEn} {K : zKa} {le : Int32} {mo : zMo} (hC : pCs S M.2.2 c t h) (hM : pCv M.1 c h E mo) (hT : pTs S M.2.2 t) (hV : pTv M.1 t E) (hS : pSs S M.2.2 p) (hK : pSv M.1 p E K le) (hE : wfE E) (hd : p + 8 < t ∨ t + 31 < p) (hW : ∀ w, w < 5 → kWt K w < 100) (who : Option Nat) (hwho : ∀ j, who = some j → j < eT E) :
    ∃ M', gX0_dayGoes_47 S c p (oI who) M = some M' ∧ pSv M'.1 p E (endS E mo K who) (leS E mo K le who) ∧ M'.2.2 = M.2.2 ∧ ∀ a b, ¬ (p ≤ a ∧ a ≤ p + 8) → M'.1 a b = M.1 a b := by
  obtain ⟨s0, -⟩ := id hS
  have hT6 := hE.1
  have n2 : ¬ p + 2 = p := by omega
  have n4 : ¬ p + 4 = p := by omega
  have n6 : ¬ p + 6 = p := by omega
  have n8 : ¬ p + 8 = p := by omega
  cases who with
  | none =>
    obtain ⟨⟨v0, v1, v2, v3, v4, v5, v6, v7, v8, v9, v10⟩, vl, vk, vw⟩ := hK
    refine ⟨zsI (zsI (zsI (zsI M p 9 (-1)) p 7 (M.1 p 7 + 1)) p 3 (-1)) p 0 (M.1 p 0 + 1), ?_, ?_, rfl, ?_⟩
    · unfold gX0_dayGoes_47
      rw [if_pos (show oI none = -1 from rfl), zpI_ok s0, zgI_ok s0, zpI_ok s0, zpI_ok s0, zgI_ok s0, zpI_ok s0, zsI_ne (M := M) (by omega), zsI_ne (M := zsI (zsI M p 9 (-1)) p 7 _) (by omega), zsI_ne (M := zsI M p 9 (-1)) (by omega), zsI_ne (M := M) (by omega)]
    · refine ⟨⟨?_, ?_, ?_, ?_, ?_, ?_, ?_, ?_, ?_, ?_, ?_⟩, fun i hi => ?_, fun i hi => ⟨?_, ?_⟩, fun w hw => ?_⟩ <;> simp [zsI, u2, n2, n4, n6, n8]
      · rw [v0, nI_1]; rfl
      · exact v1
      · exact v2
      · rfl
      · exact v4
      · exact v5
      · exact v6
      · rw [v7]; rfl
      · exact v8
      · rfl
      · exact v10
      · exact vl i hi
      · exact (vk i hi).1
      · exact (vk i hi).2
      · exact vw w hw
    · intro a b hab
      rw [zsI_ne (by omega), zsI_ne (by omega), zsI_ne (by omega), zsI_ne (by omega)]
  | some j =>
    have hj := hwho j rfl
    obtain ⟨M2, a1, a2, a3⟩ := e_lengthBy hC hM hT hV hS hK hE hj
    obtain ⟨M4, b1, b2, b3⟩ := e_worth (M := M2) (r := 1) (hr := mo.1) (a3 ▸ hC) (by rw [a2]; exact hM.1) (a3 ▸ hT) (a2 ▸ hV) (a3 ▸ hS) (a2 ▸ hK) hE (by decide) hj
    have i4 : M4.1 = M.1 := b2.trans a2
    have r4 : M4.2.2 = M.2.2 := b3.trans a3
    have o1 := e_opens (M := M4) (p := p) (t := j) (len := lenS E K mo j) (fame := famS E K mo j) (r4 ▸ hS) (by omega)
    rw [i4] at o1
    obtain ⟨⟨v0, v1, v2, v3, v4, v5, v6, v7, v8, v9, v10⟩, vl, vk, vw⟩ := id hK
    have hk1 := (vk j (by omega)).1
    have hk2 := (vk j (by omega)).2
    rw [show p + 3 + 1 = p + 4 by omega, show p + 5 + 1 = p + 6 by omega, hk1, hk2, v8] at o1
    generalize hM6 : zsI (zsI (zsI (zsI (zsI M4 p 9 (nI j)) p 4 (lenS E K mo j)) p 8 (le + lenS E K mo j)) (p + 4) j (knC (kKn K j) (famS E K mo j))) (p + 6) j (opC (kOp K j)) = M6 at o1
    have r6 : M6.2.2 = M.2.2 := by rw [← hM6]; exact r4
    have f6 : ∀ a b, ¬ (p ≤ a ∧ a ≤ p + 8) → M6.1 a b = M.1 a b := fun a b hab => by
      rw [← hM6, zsI_ne (by omega), zsI_ne (by omega), zsI_ne (by omega), zsI_ne (by omega), zsI_ne (by omega), i4]
    have hV6 : pTv M6.1 t E := pTv_cg (fun a b h1 h2 => f6 a b (by omega)) hV
    have w6 : ∀ i, M6.1 (p + 8) i = M.1 (p + 8) i := fun i => by rw [← hM6, zsI_ne (by omega), zsI_ne (by omega), zsI_ne (by omega), zsI_ne (by omega), zsI_ne (by omega), i4]
    have l6 : M6.1 p 5 = M.1 p 5 := by rw [← hM6, zsI_ne (by omega), zsI_ne (by omega), zsI_ne (by omega), zsI_ne (by omega), zsI_ne (by omega), i4]
    obtain ⟨M8, d1, d2, d3, d4, d5⟩ := e_bringOn2 (S := S) (R := M.2.2) (I := M6.1) (K := K) (len := lenS E K mo j) hT hV6 hS hE hd hW (eW E) zfu 0 M6 r6 (fun _ _ _ => rfl) (by omega) (fun i hi => by rw [mixW_0, w6]; exact vw i hi) (by rw [mixW_0, l6]; exact v5) (by have := hE.2.2.2.1; unfold zfu; omega)
    have hmix : ∀ i, mixW (kWt K) (wtS E K (lenS E K mo j)) (eW E) i = wtS E K (lenS E K mo j) i := fun i => by
      unfold mixW
      by_cases h : i < eW E
      · rw [if_pos h]
      · rw [if_neg h]
        exact (if_neg (fun h2 => h h2.1)).symm
    refine ⟨zsI (zsI M8 p 3 (-1)) p 0 (M8.1 p 0 + 1), ?_, ?_, d2, ?_⟩
    · unfold gX0_dayGoes_47
      rw [if_neg (show ¬ oI (some j) = -1 from nI_m1ne (by omega)), zrc_ok hC.1]
      show zb2 (gX0_lengthBy S c p (nI j) M) _ = _
      rw [a1]
      simp only [zb2, Option.bind_some]
      rw [zrc_ok hC.1]
      show (gX0_worth S c p (nI 1) (nI j) M2).bind _ = _
      rw [b1]
      simp only [Option.bind_some]
      rw [e_bounded, Option.bind_some, zrc_ok s0]
      show (gX7_opens S p (nI j) (lenS E K mo j) (famS E K mo j) M4).bind _ = _
      rw [o1, Option.bind_some, zgR_ok hC.1 (r6 ▸ hC.2.1), zrc_ok s0]
      show (gX7_bringOn_2 S zfu p t (lenS E K mo j) (nI 0) M6).bind _ = _
      rw [d1, Option.bind_some, zpI_ok s0, zgI_ok s0, zpI_ok s0, zsI_ne (M := M8) (by omega)]
    · have g : ∀ b, b ≠ 5 → b ≠ 3 → b ≠ 0 → (zsI (zsI M8 p 3 (-1)) p 0 (M8.1 p 0 + 1)).1 p b = M6.1 p b := fun b h5 h3 h0 => by
        rw [zsI_ne (by omega), zsI_ne (by omega), d3 p b (by omega)]
      have g2 : ∀ a b, a ≠ p → a ≠ p + 8 → (zsI (zsI M8 p 3 (-1)) p 0 (M8.1 p 0 + 1)).1 a b = M6.1 a b := fun a b h5 h8 => by
        rw [zsI_ne (by omega), zsI_ne (by omega), d3 a b (by omega)]
      have x0 : M6.1 p 0 = M.1 p 0 := by rw [← hM6, zsI_ne (by omega), zsI_ne (by omega), zsI_ne (by omega), zsI_ne (by omega), zsI_ne (by omega), i4]
      have x1 : M6.1 p 1 = M.1 p 1 := by rw [← hM6, zsI_ne (by omega), zsI_ne (by omega), zsI_ne (by omega), zsI_ne (by omega), zsI_ne (by omega), i4]
      have x2 : M6.1 p 2 = M.1 p 2 := by rw [← hM6, zsI_ne (by omega), zsI_ne (by omega), zsI_ne (by omega), zsI_ne (by omega), zsI_ne (by omega), i4]
      have x4 : M6.1 p 4 = lenS E K mo j := by rw [← hM6, zsI_ne (by omega), zsI_ne (by omega), zsI_ne (by omega), zsI_at]
      have x6 : M6.1 p 6 = M.1 p 6 := by rw [← hM6, zsI_ne (by omega), zsI_ne (by omega), zsI_ne (by omega), zsI_ne (by omega), zsI_ne (by omega), i4]
      have x7 : M6.1 p 7 = M.1 p 7 := by rw [← hM6, zsI_ne (by omega), zsI_ne (by omega), zsI_ne (by omega), zsI_ne (by omega), zsI_ne (by omega), i4]
      have x8 : M6.1 p 8 = le + lenS E K mo j := by rw [← hM6, zsI_ne (by omega), zsI_ne (by omega), zsI_at]
      have x9 : M6.1 p 9 = nI j := by rw [← hM6, zsI_ne (by omega), zsI_ne (by omega), zsI_ne (by omega), zsI_ne (by omega), zsI_at]
      have x10 : M6.1 p 10 = M.1 p 10 := by rw [← hM6, zsI_ne (by omega), zsI_ne (by omega), zsI_ne (by omega), zsI_ne (by omega), zsI_ne (by omega), i4]
      have y2 : ∀ i, M6.1 (p + 2) i = M.1 (p + 2) i := fun i => by rw [← hM6, zsI_ne (by omega), zsI_ne (by omega), zsI_ne (by omega), zsI_ne (by omega), zsI_ne (by omega), i4]
      have y4 : ∀ i, i < 6 → M6.1 (p + 4) i = up1 (kKn K) j (knC (kKn K j) (famS E K mo j)) i := fun i hi => by
        rw [← hM6, zsI_ne (by omega)]
        unfold up1
        by_cases h : i = j
        · rw [if_pos h, h, zsI_at]
        · rw [if_neg h, zsI_ne (Or.inr h), zsI_ne (by omega), zsI_ne (by omega), zsI_ne (by omega), i4]
          exact (vk i hi).1
      have y6 : ∀ i, i < 6 → M6.1 (p + 6) i = up1 (kOp K) j (opC (kOp K j)) i := fun i hi => by
        rw [← hM6]
        unfold up1
        by_cases h : i = j
        · rw [if_pos h, h, zsI_at]
        · rw [if_neg h, zsI_ne (Or.inr h), zsI_ne (by omega), zsI_ne (by omega), zsI_ne (by omega), zsI_ne (by omega), i4]
          exact (vk i hi).2
      refine ⟨⟨?_, ?_, ?_, ?_, ?_, ?_, ?_, ?_, ?_, ?_, ?_⟩, fun i hi => ?_, fun i hi => ⟨?_, ?_⟩, fun w hw => ?_⟩
      · rw [zsI_at, d3 p 0 (by omega), x0, v0, nI_1]; rfl
      · rw [g 1 (by omega) (by omega) (by omega), x1]; exact v1
      · rw [g 2 (by omega) (by omega) (by omega), x2]; exact v2
      · rw [zsI_ne (by omega), zsI_at]; rfl
      · rw [g 4 (by omega) (by omega) (by omega), x4]; rfl
      · rw [zsI_ne (by omega), zsI_ne (by omega), d5, lfN_cg (fun i _ _ => hmix i)]; rfl
      · rw [g 6 (by omega) (by omega) (by omega), x6]; exact v6
      · rw [g 7 (by omega) (by omega) (by omega), x7]; exact v7
      · rw [g 8 (by omega) (by omega) (by omega), x8]; rfl
      · rw [g 9 (by omega) (by omega) (by omega), x9]; rfl
      · rw [g 10 (by omega) (by omega) (by omega), x10]; exact v10
      · rw [g2 (p + 2) i (by omega) (by omega), y2]; exact vl i hi
      · rw [g2 (p + 4) i (by omega) (by omega)]; exact y4 i hi
      · rw [g2 (p + 6) i (by omega) (by omega)]; exact y6 i hi
      · rw [zsI_ne (by omega), zsI_ne (by omega), d4 w hw, hmix]; rfl
    · intro a b hab
      rw [zsI_ne (by omega), zsI_ne (by omega), d3 a b (by omega), f6 a b hab]
