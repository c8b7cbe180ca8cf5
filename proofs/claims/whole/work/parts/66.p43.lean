/-! pure part 43: feed -/
def byS (x : Int32) (k : Nat) : Int32 := (x >>> (nI (24 - 8 * k) &&& 31)) &&& 255
theorem byS_b (x : Int32) (k : Nat) : ∃ b, b < 256 ∧ byS x k = nI b := pk_andE _ (m := 255) 8 (by decide)
def selF (a1 a2 a3 a4 a5 : Int32) (i : Nat) : Int32 := if 4 ≤ i then (if 8 ≤ i then (if 12 ≤ i then (if 16 ≤ i then a5 else a4) else a3) else a2) else a1
def fedS (tp : Nat × (Nat → Int32)) (a1 a2 a3 a4 a5 : Int32) : Nat × (Nat → Int32) := (tp.1 + 20, fun j => if j < tp.1 then tp.2 j else byS (selF a1 a2 a3 a4 a5 (j - tp.1)) ((j - tp.1) % 4))
theorem c_tnStep {S : List (Nat × Nat)} {M : zM} {T fu : Nat} {x s : Int32} (hS : zShp S) (hR : pRf M.2.2) (hT : M.1 0 1 = nI T) (h : T < 700) (hs : ¬ s < 0) : gX11_tapeNumber_3 S (fu + 1) 0 x s M = gX11_tapeNumber_3 S fu 0 x (s + (-8)) (zsI (zsI M 2 T ((x >>> (s &&& 31)) &&& 255)) 0 1 (nI (T + 1))) := by
  have D := cD hS hR
  have Q := cP hS hR
  simp (disch := first | omega | simp only [qI2, qL2, qC2, qF2]) only [gX11_tapeNumber_3, ↓if_neg hs, ↓D, hT, ↓Q, zsI_ne, nI_1]
theorem c_tnEnd {S : List (Nat × Nat)} {M : zM} {fu : Nat} {x s : Int32} (hs : s < 0) : gX11_tapeNumber_3 S (fu + 1) 0 x s M = some M := by
  simp only [gX11_tapeNumber_3]
  exact if_pos hs
theorem c_tn {S : List (Nat × Nat)} {M : zM} {T : Nat} {x : Int32} (hS : zShp S) (hR : pRf M.2.2) (hT : M.1 0 1 = nI T) (h : T + 4 ≤ 700) :
    ∃ M', gX11_tapeNumber S 0 x M = some M' ∧ M'.2 = M.2 ∧ M'.1 0 1 = nI (T + 4) ∧ (∀ k, k < 4 → M'.1 2 (T + k) = byS x k) ∧ ∀ a b, ¬ ((a = 0 ∧ b = 1) ∨ (a = 2 ∧ T ≤ b ∧ b < T + 4)) → M'.1 a b = M.1 a b := by
  have s1 := c_tnStep (fu := 999999) (x := x) (s := 24) hS hR hT (by omega) (by decide)
  generalize hM1 : zsI (zsI M 2 T ((x >>> ((24 : Int32) &&& 31)) &&& 255)) 0 1 (nI (T + 1)) = M1 at s1
  have r1 : M1.2.2 = M.2.2 := by rw [← hM1]; rfl
  have s2 := c_tnStep (fu := 999998) (x := x) (s := 24 + (-8)) hS (r1 ▸ hR : pRf M1.2.2) (T := T + 1) (by rw [← hM1, zsI_at]) (by omega) (by decide)
  generalize hM2 : zsI (zsI M1 2 (T + 1) ((x >>> (((24 : Int32) + (-8)) &&& 31)) &&& 255)) 0 1 (nI (T + 1 + 1)) = M2 at s2
  have r2 : M2.2.2 = M.2.2 := by rw [← hM2]; exact r1
  have s3 := c_tnStep (fu := 999997) (x := x) (s := 24 + (-8) + (-8)) hS (r2 ▸ hR : pRf M2.2.2) (T := T + 2) (by rw [← hM2, zsI_at]) (by omega) (by decide)
  generalize hM3 : zsI (zsI M2 2 (T + 2) ((x >>> (((24 : Int32) + (-8) + (-8)) &&& 31)) &&& 255)) 0 1 (nI (T + 2 + 1)) = M3 at s3
  have r3 : M3.2.2 = M.2.2 := by rw [← hM3]; exact r2
  have s4 := c_tnStep (fu := 999996) (x := x) (s := 24 + (-8) + (-8) + (-8)) hS (r3 ▸ hR : pRf M3.2.2) (T := T + 3) (by rw [← hM3, zsI_at]) (by omega) (by decide)
  generalize hM4 : zsI (zsI M3 2 (T + 3) ((x >>> (((24 : Int32) + (-8) + (-8) + (-8)) &&& 31)) &&& 255)) 0 1 (nI (T + 3 + 1)) = M4 at s4
  have s5 := c_tnEnd (S := S) (M := M4) (fu := 999995) (x := x) (s := 24 + (-8) + (-8) + (-8) + (-8)) (by decide)
  have p1 : M1.2 = M.2 := by rw [← hM1]; rfl
  have p2 : M2.2 = M1.2 := by rw [← hM2]; rfl
  have p3 : M3.2 = M2.2 := by rw [← hM3]; rfl
  have p4 : M4.2 = M3.2 := by rw [← hM4]; rfl
  refine ⟨M4, ?_, by rw [p4, p3, p2, p1], by rw [← hM4, zsI_at], fun k hk => ?_, fun a b q => ?_⟩
  · show gX11_tapeNumber_3 S (999999 + 1) 0 x 24 M = _
    rw [s1, s2, s3, s4, s5]
  · rcases (show k = 0 ∨ k = 1 ∨ k = 2 ∨ k = 3 by omega) with rfl | rfl | rfl | rfl
    · rw [← hM4, zsI_ne (by omega), zsI_ne (by omega), ← hM3, zsI_ne (by omega), zsI_ne (by omega), ← hM2, zsI_ne (by omega), zsI_ne (by omega), ← hM1, zsI_ne (by omega)]
      exact zsI_at _ _ _ _
    · rw [← hM4, zsI_ne (by omega), zsI_ne (by omega), ← hM3, zsI_ne (by omega), zsI_ne (by omega), ← hM2, zsI_ne (by omega)]
      exact zsI_at _ _ _ _
    · rw [← hM4, zsI_ne (by omega), zsI_ne (by omega), ← hM3, zsI_ne (by omega)]
      exact zsI_at _ _ _ _
    · rw [← hM4, zsI_ne (by omega)]
      exact zsI_at _ _ _ _
  · rw [← hM4, zsI_ne (by omega), zsI_ne (by omega), ← hM3, zsI_ne (by omega), zsI_ne (by omega), ← hM2, zsI_ne (by omega), zsI_ne (by omega), ← hM1, zsI_ne (by omega), zsI_ne (by omega)]
theorem m_fd20 {S : List (Nat × Nat)} {R : Nat → Nat → Option Nat} {T : Nat} {a1 a2 a3 a4 a5 : Int32} (hS : pMs S R) (hT : T + 20 ≤ 700) : ∀ (k fu i : Nat) (M : zM), M.2.2 = R → M.1 306 2 = nI T → i + k = 20 → k < fu →
    ∃ M', gX12_feed_20 S fu 306 a1 a2 a3 a4 a5 (nI i) M = some (nI (T + 20), M') ∧ M'.2 = M.2 ∧ M'.1 306 2 = nI (T + 20) ∧ (∀ j, i ≤ j → j < 20 → M'.1 307 (T + j) = byS (selF a1 a2 a3 a4 a5 j) (j % 4)) ∧ ∀ a b, ¬ ((a = 306 ∧ b = 2) ∨ (a = 307 ∧ T + i ≤ b ∧ b < T + 20)) → M'.1 a b = M.1 a b := by
  intro k
  induction k with
  | zero =>
    intro fu i M hR h2 hk hf
    obtain ⟨fu, rfl⟩ : ∃ f, fu = f + 1 := ⟨fu - 1, by omega⟩
    have hb : 20 ≤ i := by omega
    have hSM : pMs S M.2.2 := hR ▸ hS
    refine ⟨zsI M 306 2 (nI (T + 20)), ?_, rfl, zsI_at _ _ _ _, fun j h1 h2 => by omega, fun a b q => zsI_ne (by omega)⟩
    have e : nI T + nI 20 = nI (T + 20) := nI_add _ _
    simp (disch := first | omega | simp only [qI2, qL2, qC2, qF2]) only [gX12_feed_20, li20, nI_leI, ↓if_pos hb, ↓mH hSM, h2, zsI_at, e]
  | succ k ih =>
    intro fu i M hR h2 hk hf
    obtain ⟨fu, rfl⟩ : ∃ f, fu = f + 1 := ⟨fu - 1, by omega⟩
    have hb : ¬ 20 ≤ i := by omega
    have hSM : pMs S M.2.2 := hR ▸ hS
    obtain ⟨M', e1, e2, e3, e4, e5⟩ := ih fu (i + 1) (zsI M 307 (T + i) (byS (selF a1 a2 a3 a4 a5 i) (i % 4))) hR (by rw [zsI_ne (by omega)]; exact h2) (by omega) (by omega)
    have st : ∀ x0 : Int32, gX12_feed_73 S (gX12_feed_20 S fu) 306 a1 a2 a3 a4 a5 (nI i) x0 M = gX12_feed_20 S fu 306 a1 a2 a3 a4 a5 (nI (i + 1)) (zsI M 307 (T + i) (byS x0 (i % 4))) := fun x0 => by
      have r1 : nI i - nI i / (4 : Int32) * (4 : Int32) = nI (i % 4) := pk_rem (d := 4) (by omega) (by omega) (by omega)
      have r2 : (24 : Int32) - (8 : Int32) * nI (i % 4) = nI (24 - 8 * (i % 4)) := by
        rw [show (8 : Int32) = nI 8 from rfl, pk_mul]
        exact pk_sub (a := 24) (by omega)
      simp (disch := first | omega | simp only [qI2, qL2, qC2, qF2]) only [gX12_feed_73, r1, r2, ↓mH hSM, h2, nI_add, mG hSM, nI_1]
      rfl
    have step : gX12_feed_20 S (fu + 1) 306 a1 a2 a3 a4 a5 (nI i) M = gX12_feed_20 S fu 306 a1 a2 a3 a4 a5 (nI (i + 1)) (zsI M 307 (T + i) (byS (selF a1 a2 a3 a4 a5 i) (i % 4))) := by
      simp (disch := first | omega | simp only [qI2, qL2, qC2, qF2]) only [gX12_feed_20, li20, li4, li8, li12, li16, nI_leI, if_neg hb, st]
      unfold selF
      split
      · split
        · split
          · split <;> rfl
          · rfl
        · rfl
      · rfl
    refine ⟨M', step.trans e1, e2, e3, fun j h3 h4 => ?_, fun a b q => by rw [e5 a b (by omega), zsI_ne (by omega)]⟩
    by_cases q : j = i
    · subst q
      rw [e5 _ _ (by omega), zsI_at]
    · exact e4 j (by omega) h4
theorem P_feed : zP_feed zInv := by
  intro S M hM a1 a2 a3 a4 a5
  refine zu (f := gX11_feed S 0 a1 a2 a3 a4 a5) (g := gX12_feed S 306 a1 a2 a3 a4 a5) ?_ M hM
  intro A M hw hc
  obtain ⟨t, E, K, le, im, st, no, tp, fl⟩ := A
  have hc2 : cIx S M t E K le im st no tp fl := hc
  have hw2 : aWx E K im st no tp fl := hw
  obtain ⟨⟨hS, hR, ht, h03, h04⟩, hV, hK, him, hst, hno, htp, hfl⟩ := hc2
  obtain ⟨wE, wK, wim, wst, wno, wtp, wfl⟩ := hw2
  have hT6 := wE.1
  have hP12 := wE.2.1
  have hW5 := wE.2.2.2.1
  have T0 := pTs_of hS hR t (Or.inr ht)
  have N0 := pSs_of hS hR 107 (by decide)
  have gT : ∀ (ρ : Type) (M' : zM) (f : Nat → Option ρ), M'.2.2 = M.2.2 → zgR S M' 0 11 14 3 f = f t := fun ρ M' f h => zgR_of ((hS 0 (by decide)).trans rfl) h03 M' f h
  have D := cD hS hR
  have g1 := htp.1
  have h700 := wtp.1
  by_cases c0 : tp.1 + 20 ≤ 700
  · have c1 : nI tp.1 + (20 : Int32) ≤ (700 : Int32) := by rw [show nI tp.1 + (20 : Int32) = nI (tp.1 + 20) from nI_add _ 20]; exact nI_le c0 (by decide)
    obtain ⟨M2, a1', b1, c1', d1, f1⟩ := c_tn (x := a1) hS hR g1 (by omega)
    have R2 : pRf M2.2.2 := by rw [b1]; exact hR
    obtain ⟨M3, a2', b2, c2, d2, f2⟩ := c_tn (x := a2) hS R2 c1' (by omega)
    have R3 : pRf M3.2.2 := by rw [b2]; exact R2
    obtain ⟨M4, a3', b3, c3, d3, f3⟩ := c_tn (x := a3) hS R3 c2 (by omega)
    have R4 : pRf M4.2.2 := by rw [b3]; exact R3
    obtain ⟨M5, a4', b4, c4, d4, f4⟩ := c_tn (x := a4) hS R4 c3 (by omega)
    have R5 : pRf M5.2.2 := by rw [b4]; exact R4
    obtain ⟨M6, a5', b5, c5, d5, f5⟩ := c_tn (x := a5) hS R5 c4 (by omega)
    have R6 : M6.2.2 = M.2.2 := by rw [b5, b4, b3, b2, b1]
    have off : ∀ a b, ¬ ((a = 0 ∧ b = 1) ∨ (a = 2 ∧ tp.1 ≤ b)) → M6.1 a b = M.1 a b := fun a b q => by rw [f5 a b (by omega), f4 a b (by omega), f3 a b (by omega), f2 a b (by omega), f1 a b (by omega)]
    have bytes : ∀ j, j < 20 → M6.1 2 (tp.1 + j) = byS (selF a1 a2 a3 a4 a5 j) (j % 4) := fun j hj => by
      unfold selF
      by_cases q4 : 4 ≤ j
      · rw [if_pos q4]
        by_cases q8 : 8 ≤ j
        · rw [if_pos q8]
          by_cases q12 : 12 ≤ j
          · rw [if_pos q12]
            by_cases q16 : 16 ≤ j
            · rw [if_pos q16, show tp.1 + j = tp.1 + 4 + 4 + 4 + 4 + (j % 4) by omega]
              exact d5 (j % 4) (by omega)
            · rw [if_neg q16, f5 _ _ (by omega), show tp.1 + j = tp.1 + 4 + 4 + 4 + (j % 4) by omega]
              exact d4 (j % 4) (by omega)
          · rw [if_neg q12, f5 _ _ (by omega), f4 _ _ (by omega), show tp.1 + j = tp.1 + 4 + 4 + (j % 4) by omega]
            exact d3 (j % 4) (by omega)
        · rw [if_neg q8, f5 _ _ (by omega), f4 _ _ (by omega), f3 _ _ (by omega), show tp.1 + j = tp.1 + 4 + (j % 4) by omega]
          exact d2 (j % 4) (by omega)
      · rw [if_neg q4, f5 _ _ (by omega), f4 _ _ (by omega), f3 _ _ (by omega), f2 _ _ (by omega)]
        have := d1 (j % 4) (by omega)
        rw [show j % 4 = j by omega] at this ⊢
        exact this
    have fed : ∀ j, j < tp.1 + 20 → (fedS tp a1 a2 a3 a4 a5).2 j = (if j < tp.1 then tp.2 j else byS (selF a1 a2 a3 a4 a5 (j - tp.1)) ((j - tp.1) % 4)) := fun j _ => rfl
    refine ⟨nI (tp.1 + 20), (t, E, K, le, im, st, no, fedS tp a1 a2 a3 a4 a5, fl), M6, ?_, ⟨wE, wK, wim, wst, wno, ⟨c0, fun j hj => ?_⟩, wfl⟩, ?_, fun a b q => off a b (by omega), ?_⟩
    · simp (disch := first | omega | simp only [qI2, qL2, qC2, qF2]) only [gX11_feed, ↓D, g1, ↓if_pos c1, ↓bind_of a1', ↓bind_of a2', ↓bind_of a3', ↓bind_of a4', ↓bind_of a5', c5]
    · show ∃ b, b < 256 ∧ (if j < tp.1 then tp.2 j else byS (selF a1 a2 a3 a4 a5 (j - tp.1)) ((j - tp.1) % 4)) = nI b
      by_cases q : j < tp.1
      · rw [if_pos q]; exact wtp.2 j q
      · rw [if_neg q]; exact byS_b _ _
    · refine ⟨⟨hS, R6 ▸ hR, ht, by rw [R6]; exact h03, by rw [R6]; exact h04⟩, pTv_cg (fun a b k1 k2 => off a b (by omega)) hV, pSv_cg (fun a b k1 k2 => off a b (by omega)) hK, ⟨(off 0 8 (by omega)).trans him.1, fun q hq => pSv_cg (fun a b k1 k2 => off a b (by omega)) (him.2 q hq)⟩, ⟨(off 182 1 (by omega)).trans hst.1, fun j hj => ⟨fun p hp => (off 184 _ (by omega)).trans ((hst.2 j hj).1 p hp), (off 184 _ (by omega)).trans (hst.2 j hj).2⟩⟩, ⟨(off 169 6 (by omega)).trans hno.1, (off 169 7 (by omega)).trans hno.2.1, fun j hj => ⟨(off 171 j (by omega)).trans (hno.2.2 j hj).1, (off 173 j (by omega)).trans (hno.2.2 j hj).2.1, (off 175 j (by omega)).trans (hno.2.2 j hj).2.2⟩⟩, ⟨c5, fun j hj => ?_⟩, ⟨(off 3 2 (by omega)).trans hfl.1, (off 3 3 (by omega)).trans hfl.2.1, fun j hj => (off 6 j (by omega)).trans (hfl.2.2 j hj)⟩⟩
      have hj2 : j < tp.1 + 20 := hj
      show M6.1 2 j = (if j < tp.1 then tp.2 j else byS (selF a1 a2 a3 a4 a5 (j - tp.1)) ((j - tp.1) % 4))
      by_cases q : j < tp.1
      · rw [if_pos q, off 2 j (by omega)]; exact htp.2 j q
      · rw [if_neg q, ← bytes (j - tp.1) (by omega)]
        rw [show tp.1 + (j - tp.1) = j by omega]
    · skip
      intro M' hm
      have hm2 : mIx S M' E K im st no tp fl := hm
      obtain ⟨mS', mE, mK, mim, mst, mno, mtp, mfl, mmd⟩ := id hm2
      have m1 := mtp.1
      have c2' : nI tp.1 ≤ (680 : Int32) := nI_le (b := 680) (by omega) (by decide)
      obtain ⟨M7, x1, x2, x3, x4, x5⟩ := m_fd20 (T := tp.1) (a1 := a1) (a2 := a2) (a3 := a3) (a4 := a4) (a5 := a5) mS' c0 20 zfu 0 (zsI M' 306 0 0) rfl ((zsI_ne (by omega)).trans m1) (by omega) (by unfold zfu; omega)
      have x1' : gX12_feed_20 S zfu 306 a1 a2 a3 a4 a5 0 (zsI M' 306 0 0) = some (nI (tp.1 + 20), M7) := x1
      have moff : ∀ a b, ¬ ((a = 306 ∧ (b = 0 ∨ b = 2)) ∨ (a = 307 ∧ tp.1 ≤ b)) → M7.1 a b = M'.1 a b := fun a b q => by rw [x5 a b (by omega), zsI_ne (by omega)]
      have R7 : M7.2.2 = M'.2.2 := by rw [x2]; rfl
      refine ⟨M7, ?_, ⟨R7 ▸ mS', pME_cg (fun a b k1 k2 => moff a b (by omega)) mE, pMk_cg hP12 (fun a b q => moff a b (by unfold mS at q; omega)) mK, ⟨(moff 306 45 (by omega)).trans mim.1, fun q hq => pMk_cg hP12 (fun a b q => moff a b (by unfold mS at q; omega)) (mim.2 q hq)⟩, ⟨(moff 306 46 (by omega)).trans mst.1, fun j hj => pMk_cg hP12 (fun a b q => moff a b (by unfold mS at q; omega)) (mst.2 j hj)⟩, ⟨(moff 306 58 (by omega)).trans mno.1, (moff 306 59 (by omega)).trans mno.2.1, fun j hj => ⟨(moff 345 j (by omega)).trans (mno.2.2 j hj).1, fun h => ⟨(moff 342 j (by omega)).trans ((mno.2.2 j hj).2 h).1, (moff 343 j (by omega)).trans ((mno.2.2 j hj).2 h).2.1, (moff 344 j (by omega)).trans ((mno.2.2 j hj).2 h).2.2⟩⟩⟩, ⟨x3, fun j hj => ?_⟩, ⟨(moff 306 26 (by omega)).trans mfl.1, (moff 306 27 (by omega)).trans mfl.2⟩, ⟨(moff 306 47 (by omega)).trans mmd.1, (moff 306 48 (by omega)).trans mmd.2.1, (moff 306 49 (by omega)).trans mmd.2.2⟩⟩, R7, fun a b q => moff a b (by omega)⟩
      · simp (disch := first | omega | simp only [qI2, qL2, qC2, qF2]) only [gX12_feed, ↓mH mS', zsI_ne, m1, ↓if_pos c2', x1']
      · have hj2 : j < tp.1 + 20 := hj
        show M7.1 307 j = (if j < tp.1 then tp.2 j else byS (selF a1 a2 a3 a4 a5 (j - tp.1)) ((j - tp.1) % 4))
        by_cases q : j < tp.1
        · rw [if_pos q, moff 307 j (by omega)]; exact mtp.2 j q
        · rw [if_neg q, ← x4 (j - tp.1) (Nat.zero_le _) (by omega)]
          rw [show tp.1 + (j - tp.1) = j by omega]
  · have c1 : ¬ nI tp.1 + (20 : Int32) ≤ (700 : Int32) := by rw [show nI tp.1 + (20 : Int32) = nI (tp.1 + 20) from nI_add _ 20]; exact nI_ge (a := 700) (by omega) (by omega)
    have c2' : ¬ nI tp.1 ≤ (680 : Int32) := nI_ge (a := 680) (by omega) (by omega)
    refine zu_same hw hc (-1) ?_ (fun M' hm => ?_)
    · simp (disch := first | omega | simp only [qI2, qL2, qC2, qF2]) only [gX11_feed, ↓D, g1, ↓if_neg c1]
    · have mS' := hm.1
      have m1 : M'.1 306 2 = nI tp.1 := hm.2.2.2.2.2.2.1.1
      simp (disch := first | omega | simp only [qI2, qL2, qC2, qF2]) only [gX12_feed, ↓mH mS', zsI_ne, m1, ↓if_neg c2']
