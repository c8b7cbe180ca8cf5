/-! pure part 42: note, strike, toldBy -/
theorem cIx_no {S : List (Nat × Nat)} {M M' : zM} {t : Nat} {E : zEn} {K : zKa} {le : Int32} {im : Option (zKa × Int32)} {st : zStp} {no no' : zNot} {tp : Nat × (Nat → Int32)} {fl : Nat × Int32} (hI : cIx S M t E K le im st no tp fl) (h : ∀ a b, ¬ (a = 169 ∨ a = 171 ∨ a = 173 ∨ a = 175) → M'.1 a b = M.1 a b) (h1 : M'.2.2 = M.2.2) (hno : cNo M'.1 no') : cIx S M' t E K le im st no' tp fl := by
  obtain ⟨⟨a1, a2, a3, a4, a5⟩, b, c, d, e, f, g, i⟩ := hI
  exact ⟨⟨a1, h1 ▸ a2, a3, by rw [h1]; exact a4, by rw [h1]; exact a5⟩, pTv_cg (fun a b k1 k2 => h a b (by omega)) b, pSv_cg (fun a b k1 k2 => h a b (by omega)) c, ⟨(h 0 8 (by decide)).trans d.1, fun q hq => pSv_cg (fun a b k1 k2 => h a b (by omega)) (d.2 q hq)⟩, ⟨(h 182 1 (by decide)).trans e.1, fun j hj => ⟨fun p hp => (h 184 _ (by decide)).trans ((e.2 j hj).1 p hp), (h 184 _ (by decide)).trans (e.2 j hj).2⟩⟩, hno, ⟨(h 0 1 (by decide)).trans g.1, fun j hj => (h 2 j (by decide)).trans (g.2 j hj)⟩, ⟨(h 3 2 (by decide)).trans i.1, (h 3 3 (by decide)).trans i.2.1, fun j hj => (h 6 j (by decide)).trans (i.2.2 j hj)⟩⟩
theorem mIx_no {S : List (Nat × Nat)} {M M' : zM} {E : zEn} {K : zKa} {im : Option (zKa × Int32)} {st : zStp} {no no' : zNot} {tp : Nat × (Nat → Int32)} {fl : Nat × Int32} (hP : eP E ≤ 12) (hI : mIx S M E K im st no tp fl) (h : ∀ a b, ¬ ((a = 306 ∧ (b = 0 ∨ b = 58 ∨ b = 59)) ∨ a = 342 ∨ a = 343 ∨ a = 344 ∨ a = 345) → M'.1 a b = M.1 a b) (h1 : M'.2.2 = M.2.2) (hno : mNo M'.1 no') : mIx S M' E K im st no' tp fl := by
  obtain ⟨a1, b, c, d, e, f, g, i, k⟩ := hI
  exact ⟨h1 ▸ a1, pME_cg (fun a b k1 k2 => h a b (by omega)) b, pMk_cg hP (fun a b k1 => h a b (by unfold mS at k1; omega)) c, ⟨(h 306 45 (by decide)).trans d.1, fun q hq => pMk_cg hP (fun a b k1 => h a b (by unfold mS at k1; omega)) (d.2 q hq)⟩, ⟨(h 306 46 (by decide)).trans e.1, fun j hj => pMk_cg hP (fun a b k1 => h a b (by unfold mS at k1; omega)) (e.2 j hj)⟩, hno, ⟨(h 306 2 (by decide)).trans g.1, fun j hj => (h 307 j (by omega)).trans (g.2 j hj)⟩, ⟨(h 306 26 (by decide)).trans i.1, (h 306 27 (by decide)).trans i.2⟩, ⟨(h 306 47 (by decide)).trans k.1, (h 306 48 (by decide)).trans k.2.1, (h 306 49 (by decide)).trans k.2.2⟩⟩
def addN (no : zNot) (k a l : Nat) : zNot := (no.1 + 1, no.2.1, upN no.2.2.1 no.1 k, upN no.2.2.2.1 no.1 a, upN no.2.2.2.2 no.1 l)
theorem addN_W {no : zNot} {k a l : Nat} (h : noW no) (h24 : no.1 < 24) (hk : k ≤ 2) (h2 : k = 2 → a < no.1) (h3 : k ≠ 2 → 1 ≤ a ∧ a ≤ 60) (hl : l ≤ 24) : noW (addN no k a l) := by
  refine ⟨h24, fun b hb => Nat.le_succ_of_le (h.2.1 b hb), fun j hj => ?_⟩
  have hj2 : j < no.1 + 1 := hj
  show (if j = no.1 then k else no.2.2.1 j) ≤ 2 ∧ ((if j = no.1 then k else no.2.2.1 j) = 2 → (if j = no.1 then a else no.2.2.2.1 j) < j) ∧ ((if j = no.1 then k else no.2.2.1 j) ≠ 2 → 1 ≤ (if j = no.1 then a else no.2.2.2.1 j) ∧ (if j = no.1 then a else no.2.2.2.1 j) ≤ 60) ∧ (if j = no.1 then l else no.2.2.2.2 j) ≤ 24
  by_cases q : j = no.1
  · rw [if_pos q, if_pos q, if_pos q, q]
    exact ⟨hk, h2, h3, hl⟩
  · rw [if_neg q, if_neg q, if_neg q]
    exact h.2.2 j (by omega)
theorem c_addN {S : List (Nat × Nat)} {M : zM} {no : zNot} {k a l : Nat} (hS : zShp S) (hR : pRf M.2.2) (hno : cNo M.1 no) (h24 : no.1 < 24) :
    ∃ M', gX2_add S 169 (nI k) (nI a) (nI l) M = some (nI no.1, M') ∧ M'.2.2 = M.2.2 ∧ cNo M'.1 (addN no k a l) ∧ ∀ a b, ¬ (a = 169 ∨ a = 171 ∨ a = 173 ∨ a = 175) → M'.1 a b = M.1 a b := by
  have D := cD hS hR
  have O := cO hS hR
  obtain ⟨g1, g2, g3⟩ := hno
  refine ⟨zsI (zsI (zsI (zsI M 171 no.1 (nI k)) 173 no.1 (nI a)) 175 no.1 (nI l)) 169 6 (nI (no.1 + 1)), ?_, rfl, ⟨zsI_at _ _ _ _, by rw [zsI_ne (by omega), zsI_ne (by omega), zsI_ne (by omega), zsI_ne (by omega)]; exact g2, fun j hj => ?_⟩, fun a b h => by rw [zsI_ne (by omega), zsI_ne (by omega), zsI_ne (by omega), zsI_ne (by omega)]⟩
  · have hx : nI (no.1 + 1) - 1 = nI no.1 := nI_pred _
    simp (disch := first | omega | simp only [qI2, qL2, qC2, qF2]) only [gX2_add, ↓D, g1, li24, nI_ltI, if_pos h24, ↓O, zsI_ne, zsI_at, nI_1, hx]
  · have hj2 : j < no.1 + 1 := hj
    show _ = nI (if j = no.1 then k else no.2.2.1 j) ∧ _ = nI (if j = no.1 then a else no.2.2.2.1 j) ∧ _ = nI (if j = no.1 then l else no.2.2.2.2 j)
    by_cases q : j = no.1
    · subst q
      rw [if_pos rfl, if_pos rfl, if_pos rfl]
      exact ⟨by rw [zsI_ne (by omega), zsI_ne (by omega), zsI_ne (by omega), zsI_at], by rw [zsI_ne (by omega), zsI_ne (by omega), zsI_at], by rw [zsI_ne (by omega), zsI_at]⟩
    · rw [if_neg q, if_neg q, if_neg q]
      have h3 := g3 j (by omega)
      exact ⟨by rw [zsI_ne (by omega), zsI_ne (by omega), zsI_ne (by omega), zsI_ne (by omega)]; exact h3.1, by rw [zsI_ne (by omega), zsI_ne (by omega), zsI_ne (by omega), zsI_ne (by omega)]; exact h3.2.1, by rw [zsI_ne (by omega), zsI_ne (by omega), zsI_ne (by omega), zsI_ne (by omega)]; exact h3.2.2⟩
theorem i24 (x : Int32) : (24 : Int32) < x ↔ ¬ x ≤ 24 := ⟨fun h => Int32.not_le.mpr h, fun h => Int32.not_le.mp h⟩
theorem P_note : zP_note zInv := by
  intro S M hM a1 a2 a3 ha3
  refine zu (f := gX11_note S 0 a1 a2 a3) (g := gX12_note S 306 a1 a2 a3) ?_ M hM
  intro A M hw hc
  obtain ⟨t, E, K, le, im, st, no, tp, fl⟩ := A
  have hc2 : cIx S M t E K le im st no tp fl := hc
  have hw2 : aWx E K im st no tp fl := hw
  obtain ⟨⟨hS, hR, ht, h03, h04⟩, hV, hK, him, hst, hno, htp, hfl⟩ := hc2
  obtain ⟨wE, wK, wim, wst, wno, wtp, wfl⟩ := hw2
  have hT6 := wE.1
  have hP12 := wE.2.1
  have hW5 := wE.2.2.2.1
  have T0 := pTs_of hS hR t (Or.inr ht)
  have N0 := pSs_of hS hR 107 (by decide)
  have gT : ∀ (ρ : Type) (M' : zM) (f : Nat → Option ρ), M'.2.2 = M.2.2 → zgR S M' 0 11 14 3 f = f t := fun ρ M' f h => zgR_of ((hS 0 (by decide)).trans rfl) h03 M' f h
  have D := cD hS hR
  by_cases c0 : a1 < (1 : Int32)
  · refine zu_same hw hc (-1) (by simp only [gX11_note, ↓if_pos c0]) (fun M' hm => ?_)
    have mS' := hm.1
    simp (disch := first | omega | simp only [qI2, qL2, qC2, qF2]) only [gX12_note, ↓mH mS', ↓if_pos c0]
  by_cases c1 : (60 : Int32) < a1
  · refine zu_same hw hc (-1) (by simp only [gX11_note, ↓if_neg c0, ↓if_pos c1]) (fun M' hm => ?_)
    have mS' := hm.1
    simp (disch := first | omega | simp only [qI2, qL2, qC2, qF2]) only [gX12_note, ↓mH mS', ↓if_neg c0, ↓if_pos c1]
  by_cases c2 : a2 < 0
  · refine zu_same hw hc (-1) (by simp only [gX11_note, ↓if_neg c0, ↓if_neg c1, ↓if_pos c2]) (fun M' hm => ?_)
    have mS' := hm.1
    simp (disch := first | omega | simp only [qI2, qL2, qC2, qF2]) only [gX12_note, ↓mH mS', ↓if_neg c0, ↓if_neg c1, ↓if_pos c2]
  by_cases c3 : a2 ≤ (24 : Int32)
  · have c3' : ¬ (24 : Int32) < a2 := fun h => (i24 a2).mp h c3
    obtain ⟨d, hd, rfl⟩ := nI_of2 (x := a1) (M := 60) (n := 60) (by decide) (fun q => c0 (i01 q)) (Int32.not_lt.mp c1)
    obtain ⟨l, hl, rfl⟩ := nI_of2 (x := a2) (M := 24) (n := 24) (by decide) c2 c3
    have hd1 : 1 ≤ d := by
      rcases Nat.eq_zero_or_pos d with q | q
      · rw [q] at c0; exact absurd (by decide) c0
      · exact q
    have h24 := wno.1
    by_cases c4 : no.1 < 24
    · have key : ∀ k : Nat, k ≤ 1 → (a3 = 0 ↔ k = 1) → ∃ (v : Int32) (A' : zAb) (M1 : zM), gX11_note S 0 (nI d) (nI l) a3 M = some (v, M1) ∧ aW A' ∧ cI S M1 A' ∧ cX M M1 ∧ ∀ M' : zM, mI S M' (t, E, K, le, im, st, no, tp, fl) → ∃ M2 : zM, gX12_note S 306 (nI d) (nI l) a3 M' = some (v, M2) ∧ mI S M2 A' ∧ mX M' M2 := fun k hk hk3 => by
        obtain ⟨M', e1, e2, e3, e4⟩ := c_addN (k := k) (a := d) (l := l) hS hR hno c4
        refine ⟨nI no.1, (t, E, K, le, im, st, addN no k d l, tp, fl), M', ?_, ⟨wE, wK, wim, wst, addN_W wno c4 (by omega) (fun h => by omega) (fun _ => ⟨hd1, hd⟩) hl, wtp, wfl⟩, cIx_no hc e4 e2 e3, fun a b q => e4 a b (by omega), ?_⟩
        · rcases (show k = 0 ∨ k = 1 by omega) with rfl | rfl
          · have z : ¬ a3 = 0 := fun h => by have := hk3.mp h; omega
            have e1' : gX2_add S 169 0 (nI d) (nI l) M = some (nI no.1, M') := e1
            simp (disch := first | omega | simp only [qI2, qL2, qC2, qF2]) only [gX11_note, ↓if_neg c0, ↓if_neg c1, ↓if_neg c2, ↓if_pos c3, ↓D, ↓if_neg z, ↓zb2_of e1']
          · have z : a3 = 0 := hk3.mpr rfl
            have e1' : gX2_add S 169 1 (nI d) (nI l) M = some (nI no.1, M') := e1
            simp (disch := first | omega | simp only [qI2, qL2, qC2, qF2]) only [gX11_note, ↓if_neg c0, ↓if_neg c1, ↓if_neg c2, ↓if_pos c3, ↓D, ↓if_pos z, ↓zb2_of e1']
        · skip
          intro M' hm
          have hm2 : mIx S M' E K im st no tp fl := hm
          obtain ⟨mS', mE, mK, mim, mst, mno, mtp, mfl, mmd⟩ := id hm2
          obtain ⟨g1, g2, g3⟩ := mno
          have c5 : ¬ no.1 = 24 := by omega
          have hx : nI (no.1 + 1) - 1 = nI no.1 := nI_pred _
          refine ⟨zsI (zsI (zsI (zsI (zsI (zsI M' 306 0 0) 342 no.1 (nI d)) 343 no.1 (nI l)) 344 no.1 (vp_nar .boolean a3)) 345 no.1 (-1)) 306 58 (nI (no.1 + 1)), ?_, mIx_no hP12 hm2 (fun a b q => by rw [zsI_ne (by omega), zsI_ne (by omega), zsI_ne (by omega), zsI_ne (by omega), zsI_ne (by omega), zsI_ne (by omega)]) rfl ⟨zsI_at _ _ _ _, by rw [zsI_ne (by omega), zsI_ne (by omega), zsI_ne (by omega), zsI_ne (by omega), zsI_ne (by omega), zsI_ne (by omega)]; exact g2, fun j hj => ?_⟩, rfl, fun a b q => by rw [zsI_ne (by omega), zsI_ne (by omega), zsI_ne (by omega), zsI_ne (by omega), zsI_ne (by omega), zsI_ne (by omega)]⟩
          · simp (disch := first | omega | simp only [qI2, qL2, qC2, qF2]) only [gX12_note, ↓mH mS', ↓if_neg c0, ↓if_neg c1, ↓if_neg c2, ↓if_neg c3', zsI_ne, g1, li24, nI_eq, if_neg c5, ↓mG mS', zsI_at, nI_1, hx]
          · have hj2 : j < no.1 + 1 := hj
            show _ = (if (if j = no.1 then k else no.2.2.1 j) = 2 then nI (if j = no.1 then d else no.2.2.2.1 j) else -1) ∧ ((if j = no.1 then k else no.2.2.1 j) ≠ 2 → _ = nI (if j = no.1 then d else no.2.2.2.1 j) ∧ _ = nI (if j = no.1 then l else no.2.2.2.2 j) ∧ _ = (if (if j = no.1 then k else no.2.2.1 j) = 0 then 1 else 0))
            by_cases q : j = no.1
            · subst q
              rw [if_pos rfl, if_pos rfl, if_pos rfl, if_neg (by omega)]
              refine ⟨by rw [zsI_ne (by omega), zsI_at], fun _ => ⟨by rw [zsI_ne (by omega), zsI_ne (by omega), zsI_ne (by omega), zsI_ne (by omega), zsI_at], by rw [zsI_ne (by omega), zsI_ne (by omega), zsI_ne (by omega), zsI_at], ?_⟩⟩
              rw [zsI_ne (by omega), zsI_ne (by omega), zsI_at]
              rcases ha3 with z | z
              · rw [z, if_neg (by have := hk3.mp z; omega)]; rfl
              · have : k = 0 := by
                  rcases (show k = 0 ∨ k = 1 by omega) with r | r
                  · exact r
                  · have := hk3.mpr r; rw [z] at this; exact absurd this (by decide)
                rw [z, if_pos this]; rfl
            · rw [if_neg q, if_neg q, if_neg q]
              have h3 := g3 j (by omega)
              refine ⟨by rw [zsI_ne (by omega), zsI_ne (by omega), zsI_ne (by omega), zsI_ne (by omega), zsI_ne (by omega), zsI_ne (by omega)]; exact h3.1, fun r => ⟨by rw [zsI_ne (by omega), zsI_ne (by omega), zsI_ne (by omega), zsI_ne (by omega), zsI_ne (by omega), zsI_ne (by omega)]; exact (h3.2 r).1, by rw [zsI_ne (by omega), zsI_ne (by omega), zsI_ne (by omega), zsI_ne (by omega), zsI_ne (by omega), zsI_ne (by omega)]; exact (h3.2 r).2.1, by rw [zsI_ne (by omega), zsI_ne (by omega), zsI_ne (by omega), zsI_ne (by omega), zsI_ne (by omega), zsI_ne (by omega)]; exact (h3.2 r).2.2⟩⟩
      rcases ha3 with z | z
      · exact key 1 (by decide) ⟨fun _ => rfl, fun _ => z⟩
      · exact key 0 (by decide) ⟨fun h => by rw [z] at h; exact absurd h (by decide), fun h => by cases h⟩
    · have c5 : no.1 = 24 := by omega
      have g1 := hno.1
      refine zu_same hw hc (-1) ?_ (fun M' hm => ?_)
      · have ad : ∀ k : Int32, gX2_add S 169 k (nI d) (nI l) M = some (-1, M) := fun k => by
          simp (disch := first | omega | simp only [qI2, qL2, qC2, qF2]) only [gX2_add, ↓D, g1, li24, nI_ltI, if_neg c4]
        simp (disch := first | omega | simp only [qI2, qL2, qC2, qF2]) only [gX11_note, ↓if_neg c0, ↓if_neg c1, ↓if_neg c2, ↓if_pos c3, ↓D, ↓zb2_of (ad 0), ↓zb2_of (ad 1)]
        split <;> rfl
      · have mS' := hm.1
        have m1 : M'.1 306 58 = nI no.1 := hm.2.2.2.2.2.1.1
        simp (disch := first | omega | simp only [qI2, qL2, qC2, qF2]) only [gX12_note, ↓mH mS', ↓if_neg c0, ↓if_neg c1, ↓if_neg c2, ↓if_neg c3', zsI_ne, m1, li24, nI_eq, if_pos c5]
  · have c3' : (24 : Int32) < a2 := (i24 a2).mpr c3
    refine zu_same hw hc (-1) (by simp only [gX11_note, ↓if_neg c0, ↓if_neg c1, ↓if_neg c2, ↓if_neg c3]) (fun M' hm => ?_)
    have mS' := hm.1
    simp (disch := first | omega | simp only [qI2, qL2, qC2, qF2]) only [gX12_note, ↓mH mS', ↓if_neg c0, ↓if_neg c1, ↓if_neg c2, ↓if_pos c3']
theorem P_strike : zP_strike zInv := by
  intro S M hM a1
  refine zu (f := gX11_strike S 0 a1) (g := gX12_strike S 306 a1) ?_ M hM
  intro A M hw hc
  obtain ⟨t, E, K, le, im, st, no, tp, fl⟩ := A
  have hc2 : cIx S M t E K le im st no tp fl := hc
  have hw2 : aWx E K im st no tp fl := hw
  obtain ⟨⟨hS, hR, ht, h03, h04⟩, hV, hK, him, hst, hno, htp, hfl⟩ := hc2
  obtain ⟨wE, wK, wim, wst, wno, wtp, wfl⟩ := hw2
  have hT6 := wE.1
  have hP12 := wE.2.1
  have hW5 := wE.2.2.2.1
  have T0 := pTs_of hS hR t (Or.inr ht)
  have N0 := pSs_of hS hR 107 (by decide)
  have gT : ∀ (ρ : Type) (M' : zM) (f : Nat → Option ρ), M'.2.2 = M.2.2 → zgR S M' 0 11 14 3 f = f t := fun ρ M' f h => zgR_of ((hS 0 (by decide)).trans rfl) h03 M' f h
  have D := cD hS hR
  have g1 := hno.1
  have h24 := wno.1
  by_cases c0 : a1 < 0
  · refine zu_same hw hc (-1) (by simp only [gX11_strike, ↓if_pos c0]) (fun M' hm => ?_)
    have mS' := hm.1
    simp (disch := first | omega | simp only [qI2, qL2, qC2, qF2]) only [gX12_strike, ↓mH mS', ↓if_pos c0]
  obtain ⟨x, hx, rfl⟩ := nI_of c0
  by_cases c1 : x < no.1
  · have c1' : ¬ no.1 ≤ x := by omega
    by_cases c4 : no.1 < 24
    · obtain ⟨M', e1, e2, e3, e4⟩ := c_addN (k := 2) (a := x) (l := 0) hS hR hno c4
      have e1' : gX2_add S 169 2 (nI x) 0 M = some (nI no.1, M') := e1
      refine ⟨nI no.1, (t, E, K, le, im, st, addN no 2 x 0, tp, fl), M', ?_, ⟨wE, wK, wim, wst, addN_W wno c4 (by omega) (fun _ => c1) (fun h => absurd rfl h) (by omega), wtp, wfl⟩, cIx_no hc e4 e2 e3, fun a b q => e4 a b (by omega), ?_⟩
      · simp (disch := first | omega | simp only [qI2, qL2, qC2, qF2]) only [gX11_strike, ↓if_neg c0, ↓D, g1, nI_ltI, if_pos c1, ↓zb2_of e1']
      · skip
        intro M' hm
        have hm2 : mIx S M' E K im st no tp fl := hm
        obtain ⟨mS', mE, mK, mim, mst, mno, mtp, mfl, mmd⟩ := id hm2
        obtain ⟨g1, g2, g3⟩ := mno
        have c5 : ¬ no.1 = 24 := by omega
        have hx : nI (no.1 + 1) - 1 = nI no.1 := nI_pred _
        refine ⟨zsI (zsI (zsI M' 306 0 0) 345 no.1 (nI x)) 306 58 (nI (no.1 + 1)), ?_, mIx_no hP12 hm2 (fun a b q => by rw [zsI_ne (by omega), zsI_ne (by omega), zsI_ne (by omega)]) rfl ⟨zsI_at _ _ _ _, by rw [zsI_ne (by omega), zsI_ne (by omega), zsI_ne (by omega)]; exact g2, fun j hj => ?_⟩, rfl, fun a b q => by rw [zsI_ne (by omega), zsI_ne (by omega), zsI_ne (by omega)]⟩
        · simp (disch := first | omega | simp only [qI2, qL2, qC2, qF2]) only [gX12_strike, ↓mH mS', ↓if_neg c0, zsI_ne, g1, li24, nI_leI, if_neg c1', nI_eq, if_neg c5, ↓mG mS', zsI_at, nI_1, hx]
        · have hj2 : j < no.1 + 1 := hj
          show _ = (if (if j = no.1 then 2 else no.2.2.1 j) = 2 then nI (if j = no.1 then x else no.2.2.2.1 j) else -1) ∧ ((if j = no.1 then 2 else no.2.2.1 j) ≠ 2 → _ = nI (if j = no.1 then x else no.2.2.2.1 j) ∧ _ = nI (if j = no.1 then 0 else no.2.2.2.2 j) ∧ _ = (if (if j = no.1 then 2 else no.2.2.1 j) = 0 then 1 else 0))
          by_cases q : j = no.1
          · subst q
            rw [if_pos rfl, if_pos rfl, if_pos rfl, if_pos rfl]
            exact ⟨by rw [zsI_ne (by omega), zsI_at], fun h => absurd rfl h⟩
          · rw [if_neg q, if_neg q, if_neg q]
            have h3 := g3 j (by omega)
            exact ⟨by rw [zsI_ne (by omega), zsI_ne (by omega), zsI_ne (by omega)]; exact h3.1, fun r => ⟨by rw [zsI_ne (by omega), zsI_ne (by omega), zsI_ne (by omega)]; exact (h3.2 r).1, by rw [zsI_ne (by omega), zsI_ne (by omega), zsI_ne (by omega)]; exact (h3.2 r).2.1, by rw [zsI_ne (by omega), zsI_ne (by omega), zsI_ne (by omega)]; exact (h3.2 r).2.2⟩⟩
    · have c5 : no.1 = 24 := by omega
      have ad : gX2_add S 169 2 (nI x) 0 M = some (-1, M) := by
        simp (disch := first | omega | simp only [qI2, qL2, qC2, qF2]) only [gX2_add, ↓D, g1, li24, nI_ltI, if_neg c4]
      refine zu_same hw hc (-1) ?_ (fun M' hm => ?_)
      · simp (disch := first | omega | simp only [qI2, qL2, qC2, qF2]) only [gX11_strike, ↓if_neg c0, ↓D, g1, nI_ltI, if_pos c1, ↓zb2_of ad]
      · have mS' := hm.1
        have m1 : M'.1 306 58 = nI no.1 := hm.2.2.2.2.2.1.1
        simp (disch := first | omega | simp only [qI2, qL2, qC2, qF2]) only [gX12_strike, ↓mH mS', ↓if_neg c0, zsI_ne, m1, li24, nI_leI, if_neg c1', nI_eq, if_pos c5]
  · have c1' : no.1 ≤ x := by omega
    refine zu_same hw hc (-1) ?_ (fun M' hm => ?_)
    · simp (disch := first | omega | simp only [qI2, qL2, qC2, qF2]) only [gX11_strike, ↓if_neg c0, ↓D, g1, nI_ltI, if_neg c1]
    · have mS' := hm.1
      have m1 : M'.1 306 58 = nI no.1 := hm.2.2.2.2.2.1.1
      simp (disch := first | omega | simp only [qI2, qL2, qC2, qF2]) only [gX12_strike, ↓mH mS', ↓if_neg c0, zsI_ne, m1, nI_leI, if_pos c1']
theorem P_toldBy : zP_toldBy zInv := by
  intro S M hM a1
  refine zu (f := gX11_toldBy S 0 a1) (g := gX12_toldBy S 306 a1) ?_ M hM
  intro A M hw hc
  obtain ⟨t, E, K, le, im, st, no, tp, fl⟩ := A
  have hc2 : cIx S M t E K le im st no tp fl := hc
  have hw2 : aWx E K im st no tp fl := hw
  obtain ⟨⟨hS, hR, ht, h03, h04⟩, hV, hK, him, hst, hno, htp, hfl⟩ := hc2
  obtain ⟨wE, wK, wim, wst, wno, wtp, wfl⟩ := hw2
  have hT6 := wE.1
  have hP12 := wE.2.1
  have hW5 := wE.2.2.2.1
  have T0 := pTs_of hS hR t (Or.inr ht)
  have N0 := pSs_of hS hR 107 (by decide)
  have gT : ∀ (ρ : Type) (M' : zM) (f : Nat → Option ρ), M'.2.2 = M.2.2 → zgR S M' 0 11 14 3 f = f t := fun ρ M' f h => zgR_of ((hS 0 (by decide)).trans rfl) h03 M' f h
  have D := cD hS hR
  have g1 := hno.1
  have h24 := wno.1
  by_cases c0 : a1 < (-1 : Int32)
  · refine zu_same hw hc 0 (by simp only [gX11_toldBy, ↓if_pos c0]) (fun M' hm => ?_)
    have mS' := hm.1
    simp (disch := first | omega | simp only [qI2, qL2, qC2, qF2]) only [gX12_toldBy, ↓mH mS', ↓if_pos c0]
  by_cases c1 : a1 ≤ nI no.1
  · have ho : ∃ o : Option Nat, a1 = oI o ∧ ∀ b, o = some b → b ≤ no.1 := by
      by_cases z : a1 = -1
      · exact ⟨none, z, fun b h => by cases h⟩
      · have z0 : ¬ a1 < 0 := fun h => by
          rw [Int32.lt_iff_toInt_lt] at h c0
          have e1 : (0 : Int32).toInt = 0 := by decide
          have e2 : (-1 : Int32).toInt = -1 := by decide
          have e3 : a1.toInt = (-1 : Int32).toInt := by omega
          exact z (Int32.toInt_inj.mp e3)
        obtain ⟨j, hj, e⟩ := nI_of2 (x := a1) (M := nI no.1) (n := no.1) (nI_toInt (by omega)) z0 c1
        exact ⟨some j, e, fun b h => by cases h; exact hj⟩
    obtain ⟨o, rfl, ho2⟩ := ho
    refine ⟨1, (t, E, K, le, im, st, (no.1, o, no.2.2), tp, fl), zsI M 169 7 (oI o), ?_, ⟨wE, wK, wim, wst, ⟨wno.1, ho2, wno.2.2⟩, wtp, wfl⟩, cIx_no hc (fun a b q => zsI_ne (by omega)) rfl ⟨(zsI_ne (by omega)).trans hno.1, zsI_at _ _ _ _, fun j hj => ⟨(zsI_ne (by omega)).trans (hno.2.2 j hj).1, (zsI_ne (by omega)).trans (hno.2.2 j hj).2.1, (zsI_ne (by omega)).trans (hno.2.2 j hj).2.2⟩⟩, fun a b q => zsI_ne (by omega), ?_⟩
    · simp (disch := first | omega | simp only [qI2, qL2, qC2, qF2]) only [gX11_toldBy, ↓if_neg c0, ↓D, g1, ↓if_pos c1]
    · skip
      intro M' hm
      have hm2 : mIx S M' E K im st no tp fl := hm
      obtain ⟨mS', mE, mK, mim, mst, mno, mtp, mfl, mmd⟩ := id hm2
      have m1 := mno.1
      refine ⟨zsI (zsI M' 306 0 0) 306 59 (oI o), ?_, mIx_no hP12 hm2 (fun a b q => by rw [zsI_ne (by omega), zsI_ne (by omega)]) rfl ⟨by rw [zsI_ne (by omega), zsI_ne (by omega)]; exact mno.1, zsI_at _ _ _ _, fun j hj => ⟨by rw [zsI_ne (by omega), zsI_ne (by omega)]; exact (mno.2.2 j hj).1, fun r => ⟨by rw [zsI_ne (by omega), zsI_ne (by omega)]; exact ((mno.2.2 j hj).2 r).1, by rw [zsI_ne (by omega), zsI_ne (by omega)]; exact ((mno.2.2 j hj).2 r).2.1, by rw [zsI_ne (by omega), zsI_ne (by omega)]; exact ((mno.2.2 j hj).2 r).2.2⟩⟩⟩, rfl, fun a b q => by rw [zsI_ne (by omega), zsI_ne (by omega)]⟩
      simp (disch := first | omega | simp only [qI2, qL2, qC2, qF2]) only [gX12_toldBy, ↓if_neg c0, ↓mH mS', zsI_ne, m1, ↓if_pos c1]
  · refine zu_same hw hc 0 ?_ (fun M' hm => ?_)
    · simp (disch := first | omega | simp only [qI2, qL2, qC2, qF2]) only [gX11_toldBy, ↓if_neg c0, ↓D, g1, ↓if_neg c1]
    · have mS' := hm.1
      have m1 : M'.1 306 58 = nI no.1 := hm.2.2.2.2.2.1.1
      simp (disch := first | omega | simp only [qI2, qL2, qC2, qF2]) only [gX12_toldBy, ↓mH mS', ↓if_neg c0, zsI_ne, m1, ↓if_neg c1]
