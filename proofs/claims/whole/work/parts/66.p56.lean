/-! pure part 56: P_plan -/
def plV (o : Option (Nat × (Nat → Nat))) (T j : Nat) : Int32 := match o with | none => -2 | some q => if j = 6 then nI q.1 else if T ≤ j then -2 else nI (q.2 j)
theorem nI_m2ne {t : Nat} (h : t < 2 ^ 31) : ¬ nI t = (-2 : Int32) := fun e => nI_pos h (by rw [e]; decide)
theorem u2_s {α : Type} {f : Nat → Nat → α} {k i : Nat} {x : α} : u2 f k i x k i = x := u2_at
theorem zsR_2 (M : zM) (k j : Nat) (x : Option Nat) : (zsR M k j x).2.2 = u2 M.2.2 k j x := rfl
theorem P_plan : zP_plan zInv := by
  intro S M hM a1
  refine zq (f := gX11_plan S 0 a1) (g := gX12_plan S 306 a1) ?_ M hM
  intro A M hw hc
  obtain ⟨t, E, K, le, im, st, no, tp, fl⟩ := A
  have hc2 : cIx S M t E K le im st no tp fl := hc
  have hw2 : aWx E K im st no tp fl := hw
  obtain ⟨⟨hS, hR, ht, h03, h04⟩, hV, hK, him, hst, hno, htp, hfl⟩ := hc2
  obtain ⟨wE, wK, wim, wst, wno, wtp, wfl⟩ := hw2
  have hT6 := wE.1
  have hP12 := wE.2.1
  have hW5 := wE.2.2.2.1
  have T0 := pTs_of hS hR t (Or.inr ht)
  have N0 := pSs_of hS hR 107 (by decide)
  have gT : ∀ (ρ : Type) (M' : zM) (f : Nat → Option ρ), M'.2.2 = M.2.2 → zgR S M' 0 11 14 3 f = f t := fun ρ M' f h => zgR_of ((hS 0 (by decide)).trans rfl) h03 M' f h
  have D := cD hS hR
  by_cases g0 : a1 < 0
  · refine ⟨-1, M, ?_, cFr.refl' hR, ?_⟩
    · simp only [gX11_plan, if_pos g0]
    · skip
      intro M' hm
      have hm2 : mIx S M' E K im st no tp fl := hm
      obtain ⟨mS', mE, mK, mim, mst, mno, mtp, mfl, mmd⟩ := id hm2
      refine ⟨_, ?_, th0 M' 0⟩
      simp (disch := first | omega | simp only [qI2, qL2, qC2, qF2]) only [gX12_plan, ↓mH mS', if_pos g0]
  by_cases g6 : a1 ≤ 6
  rotate_left
  · refine ⟨-1, M, ?_, cFr.refl' hR, ?_⟩
    · simp only [gX11_plan, if_neg g0, if_neg g6]
    · skip
      intro M' hm
      have hm2 : mIx S M' E K im st no tp fl := hm
      obtain ⟨mS', mE, mK, mim, mst, mno, mtp, mfl, mmd⟩ := id hm2
      refine ⟨_, ?_, th0 M' 0⟩
      simp (disch := first | omega | simp only [qI2, qL2, qC2, qF2]) only [gX12_plan, ↓mH mS', if_neg g0, if_neg g6]
  · obtain ⟨j, hj, rfl⟩ := nI_of2 (M := 6) (n := 6) (by decide) g0 g6
    obtain ⟨M1, a1, a2, a3, a4⟩ := c_goesOf hS hR ht h03 hV wE
    obtain ⟨⟨-, b2, -, b4, b5⟩, b6, b7, -, -⟩ := id a2
    have hwt := wK.2.2.1
    have D1 := cD hS b2
    have gT1 : ∀ (ρ : Type) (f : Nat → Option ρ), zgR S M1 0 11 14 3 f = f t := fun ρ f => zgR_ok ((hS 0 (by decide)).trans rfl) b5
    have R3 : pRf (zsR (zsR M1 192 7 (some t)) 192 8 (some 107)).2.2 := pRf_u2 (pRf_u2 b2 (by decide +kernel)) (by decide +kernel)
    have r0 : (zsR (zsR M1 192 7 (some t)) 192 8 (some 107)).2.2 134 0 = some t := by
      rw [zsR_2, zsR_2, u2_o (by decide), u2_o (by decide)]
      exact b4
    have r7 : (zsR (zsR M1 192 7 (some t)) 192 8 (some 107)).2.2 192 7 = some t := by rw [zsR_2, zsR_2, u2_o (by decide), u2_s]
    have r8 : (zsR (zsR M1 192 7 (some t)) 192 8 (some 107)).2.2 192 8 = some 107 := by rw [zsR_2, u2_s]
    have r3 : (zsR (zsR M1 192 7 (some t)) 192 8 (some 107)).2.2 0 3 = M.2.2 0 3 := by rw [zsR_2, zsR_2, u2_o (by decide), u2_o (by decide), a3, u2_o (by decide)]
    have r4 : (zsR (zsR M1 192 7 (some t)) 192 8 (some 107)).2.2 0 4 = M.2.2 0 4 := by rw [zsR_2, zsR_2, u2_o (by decide), u2_o (by decide), a3, u2_o (by decide)]
    have hK1 : pSv M1.1 107 E K le := pSv_cg (fun a b k1 k2 => a4 a b (by omega)) hK
    obtain ⟨M4, e1, e2, e3, e4, e5⟩ := c_fw13 (S := S) (R := (zsR (zsR M1 192 7 (some t)) 192 8 (some 107)).2.2) (I := M1.1) (K := K) (le := le) hS R3 ht b6 hK1 b7 wE r0 r7 (eT E) zfu 0 (zsR (zsR M1 192 7 (some t)) 192 8 (some 107)) (by omega) (by unfold zfu; omega) rfl (fun _ _ _ => rfl)
    obtain ⟨v, M9, f1, f2, f3, f4⟩ := c_f121 (S := S) (R := (zsR (zsR M1 192 7 (some t)) 192 8 (some 107)).2.2) (I := M4.1) (t := t) (K := K) (le := le) hS R3 ht (pTv_cg (fun a b k1 k2 => e3 a b (by omega)) b6) (pSv_cg (fun a b k1 k2 => e3 a b (by omega)) hK1) wE hwt r7 r8 (fun i hi => e5 i (Nat.zero_le _) hi) 13 zfu 0 M4 (by omega) (by unfold zfu; omega) e2 (fun _ _ _ => rfl)
    have fw : gX4_fewest S 192 t 107 134 M1 = some (v, M9) := by
      simp (disch := first | omega | simp only [qI2, qL2, qC2, qF2]) only [gX4_fewest, ↓D1]
      exact e1.trans f1
    have R9 : pRf M9.2.2 := by rw [f2]; exact R3
    have D9 := cD hS R9
    have L9 := cL hS R9
    have h9 : M9.2.2 0 3 = some t := by rw [f2, r3]; exact h03
    have gT9 : ∀ (ρ : Type) (f : Nat → Option ρ), zgR S M9 0 11 14 3 f = f t := fun ρ f => zgR_ok ((hS 0 (by decide)).trans rfl) h9
    have hrc : ∀ (ρ : Type) (o : Option ρ), zrc S t 10 18 o = o := fun ρ o => zrc_ok T0.1
    have off : ∀ a b, ¬ cQ a b → M9.1 a b = M.1 a b := fun a b q => by
      unfold cQ at q
      rw [f3 a b (by omega), e3 a b (by omega)]
      exact a4 a b (by omega)
    have hT9 : M9.1 t 1 = nI (eT E) := (off t 1 (by unfold cQ; omega)).trans hV.1.1
    have ht9 := e_hasTrade (S := S) (M := M9) (x := nI j) T0.1 hT9
    have p6 : ((6 : Int32)) = nI 6 := rfl
    refine ⟨plV (plS (pl0 E K) 13 0) (eT E) j, M9, ?_, ⟨off, R9, by rw [f2]; exact r3, by rw [f2]; exact r4⟩, ?_⟩
    · cases o : plS (pl0 E K) 13 0 with
      | none =>
        have hv := f4.2 o
        subst hv
        simp (disch := first | omega | simp only [qI2, qL2, qC2, qF2]) only [gX11_plan, if_neg g0, if_pos g6, ↓D, ↓gT, ↓bind_of a1, ↓D1, ↓gT1, ↓zb2_of fw, if_true]
        rfl
      | some q =>
        obtain ⟨hv, hg⟩ := f4.1 q o
        subst hv
        have hq13 := plS_lt o
        have n2 := nI_m2ne (t := q.1) (by omega)
        by_cases j6 : j = 6
        · have j6' : nI j = 6 := by rw [j6]; rfl
          simp (disch := first | omega | simp only [qI2, qL2, qC2, qF2]) only [gX11_plan, if_neg g0, if_pos g6, ↓D, ↓gT, ↓bind_of a1, ↓D1, ↓gT1, ↓zb2_of fw, if_neg n2, if_pos j6']
          unfold plV
          dsimp only
          rw [if_pos j6]
        · have j6' : ¬ nI j = 6 := fun h => j6 ((nI_eq (b := 6) (by omega) (by decide)).1 h)
          by_cases hjT : j < eT E
          · have hi : inR (eT E) (nI j) = true := inR_of (by omega) hjT
            rw [hi] at ht9
            have g := hg j hjT
            simp (disch := first | omega | simp only [qI2, qL2, qC2, qF2]) only [gX11_plan, if_neg g0, if_pos g6, ↓D, ↓gT, ↓bind_of a1, ↓D1, ↓gT1, ↓zb2_of fw, if_neg n2, if_neg j6', ↓gT9, ↓hrc, ↓bind_of ht9, if_neg bIt, ↓D9, ↓L9, g]
            unfold plV
            dsimp only
            rw [if_neg j6, if_neg (by omega)]
          · have hi : inR (eT E) (nI j) = false := by
              unfold inR
              rw [if_neg (nI_pos (by omega)), if_pos (nI_le (by omega) (by omega))]
            rw [hi] at ht9
            simp (disch := first | omega | simp only [qI2, qL2, qC2, qF2]) only [gX11_plan, if_neg g0, if_pos g6, ↓D, ↓gT, ↓bind_of a1, ↓D1, ↓gT1, ↓zb2_of fw, if_neg n2, if_neg j6', ↓gT9, ↓hrc, ↓bind_of ht9, bIf, if_true]
            unfold plV
            dsimp only
            rw [if_neg j6, if_pos (by omega)]
    · skip
      intro M' hm
      have hm2 : mIx S M' E K im st no tp fl := hm
      obtain ⟨mS', mE, mK, mim, mst, mno, mtp, mfl, mmd⟩ := id hm2
      obtain ⟨M5, c1, c2, c3, c4, c5⟩ := m_p2 (S := S) (R := M'.2.2) (I := (zsI M' 306 0 0).1) (E := E) (K := K) mS' (pME_cg (fun a b k1 k2 => zsI_ne (by omega)) mE) (pMo_cg (fun b k1 k2 => zsI_ne (by omega)) (mo_now wE mmd)) (pMk_cg hP12 (fun a b q => zsI_ne (by unfold mS at q; omega)) mK) wE hwt (eT E) zfu 0 (zsI M' 306 0 0) (by omega) (by unfold zfu; omega) rfl (fun _ _ _ => rfl)
      have c1' : gX12_planned S 306 (zsI M' 306 0 0) = gX12_planned_32 S zfu 306 0 M5 := c1
      obtain ⟨v', M6, d1, d2, d3, d4⟩ := m_p32 (S := S) (R := M'.2.2) (I := M5.1) (E := E) (K := K) mS' (pME_cg (fun a b k1 k2 => by rw [c3 a b (by unfold qPl; omega), zsI_ne (by omega)]) mE) (pMk_cg hP12 (fun a b q => by unfold mS at q; rw [c3 a b (by unfold qPl; omega), zsI_ne (by omega)]) mK) wE hwt (fun i hi => c5 i (Nat.zero_le _) hi) 13 zfu 0 M5 (by omega) (by unfold zfu; omega) c2 (fun _ _ _ => rfl)
      have pd : gX12_planned S 306 (zsI M' 306 0 0) = some (v', M6) := c1'.trans d1
      have mS6 : pMs S M6.2.2 := by rw [d2]; exact mS'
      have offm : ∀ a b, ¬ mQ a b → M6.1 a b = M'.1 a b := fun a b q => by
        unfold mQ at q
        rw [d3 a b (by omega), c3 a b (by unfold qPl; omega), zsI_ne (by omega)]
      have hT6' : M6.1 308 0 = nI (eT E) := (offm 308 0 (by unfold mQ; omega)).trans mE.1.1
      refine ⟨M6, ?_, d2, offm⟩
      cases o : plS (pl0 E K) 13 0 with
      | none =>
        have hv := d4.2 o
        subst hv
        have n2 : (-2 : Int32) < 0 := by decide
        simp (disch := first | omega | simp only [qI2, qL2, qC2, qF2]) only [gX12_plan, ↓mH mS', if_neg g0, if_pos g6, ↓zb2_of pd, if_pos n2]
        rfl
      | some q =>
        obtain ⟨hv, hg⟩ := d4.1 q o
        subst hv
        have hq13 := plS_lt o
        have n2 : ¬ nI q.1 < 0 := nI_pos (by omega)
        by_cases j6 : j = 6
        · have j6' : nI j = 6 := by rw [j6]; rfl
          simp (disch := first | omega | simp only [qI2, qL2, qC2, qF2]) only [gX12_plan, ↓mH mS', if_neg g0, if_pos g6, ↓zb2_of pd, if_neg n2, if_pos j6']
          unfold plV
          dsimp only
          rw [if_pos j6]
        · have j6' : ¬ nI j = 6 := fun h => j6 ((nI_eq (b := 6) (by omega) (by decide)).1 h)
          by_cases hjT : j < eT E
          · have g := hg j hjT
            have hc : ¬ eT E ≤ j := by omega
            simp (disch := first | omega | simp only [qI2, qL2, qC2, qF2]) only [gX12_plan, ↓mH mS', if_neg g0, if_pos g6, ↓zb2_of pd, if_neg n2, if_neg j6', ↓mH mS6, ↓mL mS6, hT6', nI_leI, if_neg hc, ↓mG mS6, g]
            unfold plV
            dsimp only
            rw [if_neg j6, if_neg (by omega)]
          · have hc : eT E ≤ j := by omega
            simp (disch := first | omega | simp only [qI2, qL2, qC2, qF2]) only [gX12_plan, ↓mH mS', if_neg g0, if_pos g6, ↓zb2_of pd, if_neg n2, if_neg j6', ↓mH mS6, ↓mL mS6, hT6', nI_leI, if_pos hc]
            unfold plV
            dsimp only
            rw [if_neg j6, if_pos hc]
