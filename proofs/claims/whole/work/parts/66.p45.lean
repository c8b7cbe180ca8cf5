/-! pure part 45: hours, the class -/
def jm (j : Nat) : Int32 := if j = 0 then -1 else nI (j - 1)
theorem jm_s (j : Nat) : jm (j + 1) = nI j := if_neg (by omega)
theorem jm_m (j : Nat) : nI j + (-1) = jm j := by
  cases j with
  | zero => rfl
  | succ j => rw [pk_m1, jm_s]
theorem jm_d (j : Nat) : nI j - 1 = jm j := by
  cases j with
  | zero => rfl
  | succ j => rw [nI_pred, jm_s]
theorem bI_0 (b : Bool) : (bI b = 0) ↔ b = false := by cases b <;> simp [bI]
theorem c_so15 {S : List (Nat × Nat)} {R : Nat → Nat → Option Nat} {I : Nat → Nat → Int32} {no : zNot} (hS : zShp S) (hR : pRf R) (hno : cNo I no) (wno : noW no) : ∀ (j fu : Nat) (s : Nat → Bool) (M : zM), M.2.2 = R → (∀ a b, ¬ a = 177 → M.1 a b = I a b) → (∀ i, i < 24 → M.1 177 i = bI (s i)) → j ≤ no.1 → j < fu →
    ∃ M', gX2_strikeOut_15 S fu 169 (jm j) M = some M' ∧ M'.2.2 = R ∧ (∀ a b, ¬ a = 177 → M'.1 a b = I a b) ∧ (∀ i, i < 24 → M'.1 177 i = bI (skS no j s i)) := by
  have D := cD hS hR
  have O := cO hS hR
  have h24 := wno.1
  intro j
  induction j with
  | zero =>
    intro fu s M hMR hI hs hj hf
    obtain ⟨fu, rfl⟩ : ∃ f, fu = f + 1 := ⟨fu - 1, by omega⟩
    refine ⟨M, ?_, hMR, hI, hs⟩
    simp only [gX2_strikeOut_15]
    exact if_pos (by decide)
  | succ j ih =>
    intro fu s M hMR hI hs hj hf
    obtain ⟨fu, rfl⟩ : ∃ f, fu = f + 1 := ⟨fu - 1, by omega⟩
    have z : ¬ nI j < 0 := nI_pos (by omega)
    obtain ⟨n1, n2, n3⟩ := hno.2.2 j (by omega)
    have k1 : M.1 171 j = nI (nK no j) := by rw [hI _ _ (by decide)]; exact n1
    have k2 : M.1 173 j = nI (nA no j) := by rw [hI _ _ (by decide)]; exact n2
    have k3 := hs j (by omega)
    obtain ⟨w1, w2, w3, w4⟩ := wno.2.2 j (by omega)
    rw [jm_s]
    by_cases q : nK no j = 2
    · have q' : nI (nK no j) = 2 := by rw [q]; rfl
      cases hsj : s j with
      | false =>
        have k3' : M.1 177 j = 0 := by rw [k3, hsj]; rfl
        have ha : nA no j < j := w2 q
        obtain ⟨M', e1, e2, e3, e4⟩ := ih fu (upB s (nA no j)) (zsI M 177 (nA no j) 1) hMR (fun a b h => by rw [zsI_ne (by omega)]; exact hI a b h) (fun i hi => by
          unfold upB
          by_cases q2 : i = nA no j
          · rw [if_pos q2, q2, zsI_at]; rfl
          · rw [if_neg q2, zsI_ne (by omega)]; exact hs i hi) (by omega) (by omega)
        refine ⟨M', ?_, e2, e3, fun i hi => ?_⟩
        · simp (disch := first | omega | simp only [qI2, hMR]) only [gX2_strikeOut_15, ↓if_neg z, ↓D, ↓O, k1, ↓if_pos q', k3', if_true, k2, jm_m]
          exact e1
        · rw [e4 i hi]
          show _ = bI (skS no j (if nK no j = 2 then (if s j then s else upB s (nA no j)) else s) i)
          rw [if_pos q, hsj, if_neg Bool.false_ne_true]
      | true =>
        have k3' : ¬ bI true = 0 := by decide
        obtain ⟨M', e1, e2, e3, e4⟩ := ih fu s M hMR hI hs (by omega) (by omega)
        rw [hsj] at k3
        refine ⟨M', ?_, e2, e3, fun i hi => ?_⟩
        · simp (disch := first | omega | simp only [qI2, hMR]) only [gX2_strikeOut_15, ↓if_neg z, ↓D, ↓O, k1, ↓if_pos q', k3, ↓if_neg k3', jm_m]
          exact e1
        · rw [e4 i hi]
          show _ = bI (skS no j (if nK no j = 2 then (if s j then s else upB s (nA no j)) else s) i)
          rw [if_pos q, hsj, if_pos rfl]
    · have q' : ¬ nI (nK no j) = 2 := fun e => q ((nI_eq (b := 2) (by unfold nK; omega) (by decide)).mp e)
      obtain ⟨M', e1, e2, e3, e4⟩ := ih fu s M hMR hI hs (by omega) (by omega)
      refine ⟨M', ?_, e2, e3, fun i hi => ?_⟩
      · simp (disch := first | omega | simp only [qI2, hMR]) only [gX2_strikeOut_15, ↓if_neg z, ↓D, ↓O, k1, ↓if_neg q', jm_m]
        exact e1
      · rw [e4 i hi]
        show _ = bI (skS no j (if nK no j = 2 then (if s j then s else upB s (nA no j)) else s) i)
        rw [if_neg q]
theorem c_strikeOut {S : List (Nat × Nat)} {M : zM} {no : zNot} (hS : zShp S) (hR : pRf M.2.2) (hno : cNo M.1 no) (wno : noW no) :
    ∃ M', gX2_strikeOut S 169 M = some M' ∧ M'.2.2 = M.2.2 ∧ (∀ a b, ¬ a = 177 → M'.1 a b = M.1 a b) ∧ (∀ i, i < 24 → M'.1 177 i = bI (skF no i)) := by
  have D := cD hS hR
  have O := cO hS hR
  have hno2 : cNo (zfl M 177 0 0 24).1 no := ⟨(zfl_ne (by omega)).trans hno.1, (zfl_ne (by omega)).trans hno.2.1, fun j hj => ⟨(zfl_ne (by omega)).trans (hno.2.2 j hj).1, (zfl_ne (by omega)).trans (hno.2.2 j hj).2.1, (zfl_ne (by omega)).trans (hno.2.2 j hj).2.2⟩⟩
  have by1 := c_byHow (M := zfl M 177 0 0 24) ((hS 169 (by decide)).trans rfl) hno2 wno
  obtain ⟨M', e1, e2, e3, e4⟩ := c_so15 (I := M.1) hS hR hno wno (byN no) zfu (fun _ => false) (zfl M 177 0 0 24) rfl (fun a b h => zfl_ne (by omega)) (fun i hi => by rw [zfl_at (by omega)]; rfl) (byN_le wno) (by have := byN_le wno; have := wno.1; unfold zfu; omega)
  refine ⟨M', ?_, e2, e3, e4⟩
  simp (disch := first | omega | simp only [qI2, qL2, qC2, qF2]) only [gX2_strikeOut, ↓D, ↓O, ↓bind_of by1, jm_d]
  exact e1
theorem c_tells {S : List (Nat × Nat)} {M : zM} {no : zNot} {j : Nat} (hS : zShp S) (hR : pRf M.2.2) (hno : cNo M.1 no) (wno : noW no) (hs : ∀ i, i < 24 → M.1 177 i = bI (skF no i)) (hj : j < no.1) : gX2_tells S 169 (nI j) M = some (bI (tlS no j)) := by
  have D := cD hS hR
  have O := cO hS hR
  have h24 := wno.1
  have k1 : M.1 171 j = nI (nK no j) := (hno.2.2 j hj).1
  have k3 := hs j (by omega)
  have w1 := (wno.2.2 j hj).1
  unfold tlS
  by_cases q : nK no j = 2
  · have q' : nI (nK no j) = 2 := by rw [q]; rfl
    simp (disch := first | omega | simp only [qI2, qL2, qC2, qF2]) only [gX2_tells, ↓D, ↓O, k1, ↓if_pos q', if_pos q]
    rfl
  · have q' : ¬ nI (nK no j) = 2 := fun e => q ((nI_eq (b := 2) (by unfold nK; omega) (by decide)).mp e)
    simp (disch := first | omega | simp only [qI2, qL2, qC2, qF2]) only [gX2_tells, ↓D, ↓O, k1, ↓if_neg q', k3, if_neg q]
    cases skF no j <;> rfl
theorem c_lg4 {S : List (Nat × Nat)} {M : zM} {no : zNot} (hS : zShp S) (hR : pRf M.2.2) (hno : cNo M.1 no) (wno : noW no) (hs : ∀ i, i < 24 → M.1 177 i = bI (skF no i)) : ∀ (k fu j x : Nat), j + k = byN no → x ≤ 60 → k < fu → gX2_longest_4 S fu 169 (nI x) (nI j) M = some (nI (lgS no k j x)) := by
  have D := cD hS hR
  have O := cO hS hR
  have h24 := wno.1
  have hle := byN_le wno
  have by1 := c_byHow ((hS 169 (by decide)).trans rfl) hno wno
  intro k
  induction k with
  | zero =>
    intro fu j x hk hx hf
    obtain ⟨fu, rfl⟩ : ∃ f, fu = f + 1 := ⟨fu - 1, by omega⟩
    have hb : byN no ≤ j := by omega
    simp (disch := first | omega | simp only [qI2, qL2, qC2, qF2]) only [gX2_longest_4, ↓D, ↓bind_of by1, nI_leI, if_pos hb]
    rfl
  | succ k ih =>
    intro fu j x hk hx hf
    obtain ⟨fu, rfl⟩ : ∃ f, fu = f + 1 := ⟨fu - 1, by omega⟩
    have hb : ¬ byN no ≤ j := by omega
    have tl := c_tells hS hR hno wno hs (show j < no.1 by omega)
    have k2 : M.1 173 j = nI (nA no j) := (hno.2.2 j (by omega)).2.1
    show _ = some (nI (lgS no k (j + 1) (if tlS no j then (if x < nA no j then nA no j else x) else x)))
    cases ht : tlS no j with
    | false =>
      rw [ht] at tl
      rw [if_neg Bool.false_ne_true]
      simp (disch := first | omega | simp only [qI2, qL2, qC2, qF2]) only [gX2_longest_4, ↓D, ↓bind_of by1, nI_leI, if_neg hb, ↓bind_of tl, bIf, if_true, nI_1]
      exact ih fu (j + 1) x (by omega) hx (by omega)
    | true =>
      rw [ht] at tl
      rw [if_pos rfl]
      have h2 : nK no j ≠ 2 := by
        intro q
        unfold tlS at ht
        rw [if_pos q] at ht
        cases ht
      have h60 : nA no j ≤ 60 := ((wno.2.2 j (by omega)).2.2.1 h2).2
      have hmax : (if nI x < nI (nA no j) then nI (nA no j) else nI x) = nI (if x < nA no j then nA no j else x) := by
        by_cases q : x < nA no j
        · rw [if_pos q, if_pos (nI_lt q (by omega))]
        · rw [if_neg q, if_neg (nI_nlt (by omega) (by omega))]
      simp (disch := first | omega | simp only [qI2, qL2, qC2, qF2]) only [gX2_longest_4, ↓D, ↓bind_of by1, nI_leI, if_neg hb, ↓bind_of tl, if_neg bIt, ↓O, k2, hmax, nI_1]
      exact ih fu (j + 1) _ (by omega) (by split <;> omega) (by omega)
theorem moN_H {E : zEn} {tr : Nat} : moN E = moH E tr (eHr E tr) := by
  unfold moN moH
  congr 1
  funext t
  by_cases q : t = tr
  · rw [if_pos q, q]
  · rw [if_neg q]
theorem moH_ok {E : zEn} {tr h : Nat} (wE : wfE E) (hh : h ≤ 24) : moOk E (moH E tr h) := ⟨fun _ h => (by cases h), wE.2.2.2.2.1, fun t ht => by
  show (if t = tr then h else eHr E t) ≤ 24
  split
  · exact hh
  · exact Nat.le_trans (wE.2.2.2.2.2.2.2.1 t ht) (by decide)⟩
def cW (S : List (Nat × Nat)) (M0 : zM) (t : Nat) (E : zEn) (mo : zMo) (M : zM) : Prop := cOk S M.2.2 M.1 t E mo ∧ M.2.2 = M0.2.2 ∧ ∀ a b, ¬ (a = 168 ∨ (116 ≤ a ∧ a ≤ 124) ∨ a = 179) → M.1 a b = M0.1 a b
theorem c_wh67 {S : List (Nat × Nat)} {M0 : zM} {t tr h days : Nat} {E : zEn} {mo : zMo} {k33 : Nat → Int32 → Int32 → Int32 → zM → Option zM} (hd : days ≤ 60) (hh : h < 24) : ∀ (k fu d B : Nat) (K : zKa) (le : Int32) (M : zM), cW S M0 t E mo M → pSv M.1 116 E K le → wfK E K B → B + k < 2 ^ 30 → 1 ≤ d → d + k = days + 1 → k < fu →
    ∃ M', gX11_watchHours_67 S k33 fu 0 (nI tr) (nI days) (nI h) (nI d) M = k33 0 (nI tr) (nI days) (nI (h + 1)) M' ∧ cW S M0 t E mo M' ∧ (∀ e, d ≤ e → e ≤ days → M'.1 179 (60 * h + e - 1) = kLa (dysS E mo (e - d + 1) K)) ∧ (∀ b, ¬ (60 * h + d - 1 ≤ b ∧ b < 60 * h + days) → M'.1 179 b = M.1 179 b) := by
  intro k
  induction k with
  | zero =>
    intro fu d B K le M hc hK wK hB hd1 hk hf
    obtain ⟨fu, rfl⟩ : ∃ f, fu = f + 1 := ⟨fu - 1, by omega⟩
    have hb : days < d := by omega
    refine ⟨M, ?_, hc, fun e h1 h2 => by omega, fun _ _ => rfl⟩
    simp (disch := first | omega | simp only [qI2, qL2, qC2, qF2]) only [gX11_watchHours_67, nI_ltI, ↓if_pos hb, nI_1]
  | succ k ih =>
    intro fu d B K le M hc hK wK hB hd1 hk hf
    obtain ⟨fu, rfl⟩ : ∃ f, fu = f + 1 := ⟨fu - 1, by omega⟩
    have hb : ¬ days < d := by omega
    obtain ⟨M3, a1, a2, a3, a4, a5, a6⟩ := c_day hc.1 (by decide) hK wK (by omega)
    have hS := hc.1.1.1
    have D := cD hS hc.1.1.2.1
    have R3 : pRf M3.2.2 := a6.1.2.1
    have D3 := cD hS R3
    have T3 := cT hS R3
    have O3 := cO hS R3
    have v4 := a2.1.2.2.2.2.1
    have ht := hc.1.1.2.2.1
    have hc7 : cW S M0 t E mo (zsI M3 179 (60 * h + d - 1) (kLa (dayS E mo K))) := ⟨cOk_cg (fun a b q => zsI_ne (by omega)) a6, a4.trans hc.2.1, fun a b q => by rw [zsI_ne (by omega), a5 a b (by omega)]; exact hc.2.2 a b q⟩
    obtain ⟨M', e1, e2, e3, e4⟩ := ih fu (d + 1) (B + 1) (dayS E mo K) (le + dL E mo K) (zsI M3 179 (60 * h + d - 1) (kLa (dayS E mo K))) hc7 (pSv_cg (fun a b k1 k2 => zsI_ne (by omega)) a2) a3 (by omega) (by omega) (by omega) (by omega)
    refine ⟨M', ?_, e2, fun e h1 h2 => ?_, fun b q => by rw [e4 b (by omega), zsI_ne (by omega), a5 179 b (by omega)]⟩
    · have see : gX2_sees S 169 (nI h) (nI d) (kLa (dayS E mo K)) M3 = some (zsI M3 179 (60 * h + d - 1) (kLa (dayS E mo K))) := by
        have hx : nI h * (60 : Int32) + nI d - (1 : Int32) = nI (60 * h + d - 1) := by
          rw [show (60 : Int32) = nI 60 from rfl, pk_mul, nI_add, Nat.mul_comm h 60]
          exact pk_sub (b := 1) (by omega)
        simp only [gX2_sees, hx]
        simp (disch := first | omega | simp only [qI2, qL2, qC2, qF2]) only [↓D3, ↓O3]
      simp (disch := first | omega | simp only [qI2, qL2, qC2, qF2]) only [gX11_watchHours_67, nI_ltI, if_neg hb, ↓D, ↓bind_of a1, ↓D3, ↓T3, v4, ↓bind_of see, nI_1]
      exact e1
    · by_cases q : e = d
      · subst q
        rw [e4 _ (by omega), zsI_at, Nat.sub_self]
        rfl
      · rw [e3 e (by omega) h2]
        rw [show e - d + 1 = (e - (d + 1) + 1) + 1 by omega]
        rfl
theorem c_wh33 {S : List (Nat × Nat)} {M0 : zM} {t tr days : Nat} {E : zEn} (hd : days ≤ 60) (htr : tr < eT E) : ∀ (k fu h x : Nat) (M : zM), x ≤ 24 → cW S M0 t E (moH E tr x) M → h + k = 24 → k < fu →
    ∃ M' x', x' ≤ 24 ∧ gX11_watchHours_33 S fu 0 (nI tr) (nI days) (nI h) M = some M' ∧ cW S M0 t E (moH E tr x') M' ∧ (∀ g e, h ≤ g → g < 24 → 1 ≤ e → e ≤ days → M'.1 179 (60 * g + e - 1) = lbS E tr g e) ∧ (∀ b, b < 60 * h → M'.1 179 b = M.1 179 b) := by
  intro k
  induction k with
  | zero =>
    intro fu h x M hx hc hk hf
    obtain ⟨fu, rfl⟩ : ∃ f, fu = f + 1 := ⟨fu - 1, by omega⟩
    have hb : 24 ≤ h := by omega
    refine ⟨M, x, hx, ?_, hc, fun g e h1 h2 => by omega, fun _ _ => rfl⟩
    simp (disch := first | omega | simp only [qI2, qL2, qC2, qF2]) only [gX11_watchHours_33, li24, nI_leI, ↓if_pos hb]
  | succ k ih =>
    intro fu h x M hx hc hk hf
    obtain ⟨fu, rfl⟩ : ∃ f, fu = f + 1 := ⟨fu - 1, by omega⟩
    have hb : ¬ 24 ≤ h := by omega
    obtain ⟨⟨⟨hS, hR, ht, h134, h03⟩, hV, hCv, wE, -⟩, hR0, hI0⟩ := id hc
    have hT6 := wE.1
    have D := cD hS hR
    have gT : ∀ (M' : zM) (f : Nat → Option zM), M'.2.2 = M.2.2 → zgR S M' 0 11 14 3 f = f t := fun M' f h => zgR_of ((hS 0 (by decide)).trans rfl) h03 M' f h
    have c3 : cOk S M.2.2 (zsI M 168 tr (nI h)).1 t E (moH E tr h) := by
      refine ⟨⟨hS, hR, ht, h134, h03⟩, pTv_cg (fun a b k1 k2 => zsI_ne (by omega)) hV, ⟨fun i hi => ?_, (zsI_ne (by omega)).trans hCv.2.1, (zsI_ne (by omega)).trans hCv.2.2.1, (zsI_ne (by omega)).trans hCv.2.2.2.1, (zsI_ne (by omega)).trans hCv.2.2.2.2⟩, wE, moH_ok wE (by omega)⟩
      show (zsI M 168 tr (nI h)).1 168 i = nI (if i = tr then h else eHr E i)
      by_cases q : i = tr
      · rw [if_pos q, q, zsI_at]
      · rw [if_neg q, zsI_ne (by omega)]
        have := hCv.1 i hi
        have e : (moH E tr x).1 i = eHr E i := if_neg q
        rw [e] at this
        exact this
    obtain ⟨M6, s1, s2, s3, s4⟩ := c_starts (M := zsI M 168 tr (nI h)) (p := 116) (t := t) (pSs_of hS hR 116 (by decide)) (pTs_of hS hR t (Or.inr ht)) (by omega) wE c3.2.1
    have R6 : M6.2.2 = M.2.2 := by rw [s2]; rfl
    have hc6 : cW S M0 t E (moH E tr h) M6 := ⟨R6 ▸ cOk_cg (fun a b q => s4 a b (by omega)) c3, R6.trans hR0, fun a b q => by rw [s4 a b (by omega), zsI_ne (by omega)]; exact hI0 a b q⟩
    obtain ⟨M', w1, w2, w3, w4⟩ := c_wh67 (tr := tr) (k33 := gX11_watchHours_33 S fu) hd (show h < 24 by omega) days zfu 1 0 (K0 E) 0 M6 hc6 s3 (wfK_K0 wE) (by omega) (Nat.le_refl _) (by omega) (by unfold zfu; omega)
    obtain ⟨M'', x', y1, y2, y3, y4, y5⟩ := ih fu (h + 1) h M' (by omega) w2 (by omega) (by omega)
    refine ⟨M'', x', y1, ?_, y3, fun g e h1 h2 h3 h4 => ?_, fun b q => by rw [y5 b (by omega), w4 b (by omega), s4 179 b (by omega), zsI_ne (by omega)]⟩
    · have w1' : gX11_watchHours_67 S (gX11_watchHours_33 S fu) zfu 0 (nI tr) (nI days) (nI h) 1 M6 = _ := w1
      simp (disch := first | omega | simp only [qI2, qL2, qC2, qF2]) only [gX11_watchHours_33, li24, nI_leI, if_neg hb, ↓D, ↓gT, ↓bind_of s1]
      rw [w1', zrc_ok ((hS 116 (by decide)).trans rfl)]
      exact y2
    · by_cases q : g = h
      · subst q
        rw [y5 _ (by omega), w3 e (by omega) h4, show e - 1 + 1 = e by omega]
        rfl
      · exact y4 g e (by omega) h2 h3 h4
theorem c_watch {S : List (Nat × Nat)} {M : zM} {t tr least : Nat} {E : zEn} {no : zNot} (hS : zShp S) (hR : pRf M.2.2) (ht : t = 43 ∨ t = 75) (h03 : M.2.2 0 3 = some t) (hV : pTv M.1 t E) (wE : wfE E) (hno : cNo M.1 no) (wno : noW no) (htr : tr < eT E) (hl : least ≤ 60) :
    ∃ M', gX11_watchHours S 0 (nI tr) (nI least) M = some M' ∧ M'.2.2 = u2 M.2.2 134 0 (some t) ∧ (∀ a b, ¬ (a = 134 ∨ a = 168 ∨ (116 ≤ a ∧ a ≤ 124) ∨ a = 177 ∨ a = 179) → M'.1 a b = M.1 a b) ∧ (∀ i, i < 24 → M'.1 177 i = bI (skF no i)) ∧ (∀ g e, g < 24 → 1 ≤ e → e ≤ least ∨ e ≤ lgF no → M'.1 179 (60 * g + e - 1) = lbS E tr g e) := by
  have D := cD hS hR
  have gT : ∀ (f : Nat → Option zM), zgR S M 0 11 14 3 f = f t := fun f => zgR_of ((hS 0 (by decide)).trans rfl) h03 M f rfl
  obtain ⟨M1, e1, e2, e3, e4⟩ := c_goesOf hS hR ht h03 hV wE
  have R1 := e2.1.2.1
  have D1 := cD hS R1
  have hno1 : cNo M1.1 no := ⟨(e4 169 6 (by decide)).trans hno.1, (e4 169 7 (by decide)).trans hno.2.1, fun j hj => ⟨(e4 171 j (by omega)).trans (hno.2.2 j hj).1, (e4 173 j (by omega)).trans (hno.2.2 j hj).2.1, (e4 175 j (by omega)).trans (hno.2.2 j hj).2.2⟩⟩
  obtain ⟨M5, f1, f2, f3, f4⟩ := c_strikeOut hS R1 hno1 wno
  have R5 : pRf M5.2.2 := f2 ▸ R1
  have D5 := cD hS R5
  have hno5 : cNo M5.1 no := ⟨(f3 169 6 (by decide)).trans hno1.1, (f3 169 7 (by decide)).trans hno1.2.1, fun j hj => ⟨(f3 171 j (by omega)).trans (hno1.2.2 j hj).1, (f3 173 j (by omega)).trans (hno1.2.2 j hj).2.1, (f3 175 j (by omega)).trans (hno1.2.2 j hj).2.2⟩⟩
  have hble := byN_le wno
  have h24 := wno.1
  have lg : gX2_longest S 169 M5 = some (nI (lgF no)) := c_lg4 hS R5 hno5 wno f4 (byN no) zfu 0 0 (by omega) (by omega) (by unfold zfu; omega)
  have l60 : lgF no ≤ 60 := lgS_60 wno _ _ _ (by omega) (by omega)
  have hmax : (if nI least < nI (lgF no) then nI (lgF no) else nI least) = nI (if least < lgF no then lgF no else least) := by
    by_cases q : least < lgF no
    · rw [if_pos q, if_pos (nI_lt q (by omega))]
    · rw [if_neg q, if_neg (nI_nlt (by omega) (by omega))]
  have hW : cW S M5 t E (moH E tr (eHr E tr)) M5 := by
    refine ⟨?_, rfl, fun _ _ _ => rfl⟩
    rw [← moN_H]
    exact f2 ▸ cOk_cg (fun a b q => f3 a b (by omega)) e2
  obtain ⟨M', x', y1, y2, y3, y4, y5⟩ := c_wh33 (S := S) (M0 := M5) (t := t) (tr := tr) (days := if least < lgF no then lgF no else least) (E := E) (by split <;> omega) htr 24 zfu 0 (eHr E tr) M5 (Nat.le_trans (wE.2.2.2.2.2.2.2.1 tr htr) (by decide)) hW (by omega) (by unfold zfu; omega)
  have y2' : gX11_watchHours_33 S zfu 0 (nI tr) (nI (if least < lgF no then lgF no else least)) 0 M5 = some M' := y2
  refine ⟨M', ?_, by rw [y3.2.1, f2, e3], fun a b q => by rw [y3.2.2 a b (by omega), f3 a b (by omega), e4 a b (by omega)], fun i hi => by rw [y3.2.2 177 i (by omega)]; exact f4 i hi, fun g e h1 h2 h3 => y4 g e (Nat.zero_le _) h1 h2 (by split <;> omega)⟩
  simp (disch := first | omega | simp only [qI2, qL2, qC2, qF2]) only [gX11_watchHours, ↓D, ↓gT, ↓bind_of e1, ↓D1, ↓bind_of f1, ↓D5, ↓bind_of lg, hmax, y2']
theorem allB_last {f : Nat → Bool} (k i : Nat) : allB f (k + 1) i = (allB f k i && f (i + k)) := by
  rw [Bool.eq_iff_iff, allB_iff, Bool.and_eq_true, allB_iff]
  constructor
  · intro h
    exact ⟨fun j h1 h2 => h j h1 (by omega), h (i + k) (by omega) (by omega)⟩
  · rintro ⟨h1, h2⟩ j h3 h4
    by_cases q : j = i + k
    · rw [q]; exact h2
    · exact h1 j h3 (by omega)
def hqS (E : zEn) (no : zNot) (tr j h : Nat) : Bool := allB (fun j => !tlS no j || ftS E no tr j h) j 0
def mixB (f g : Nat → Bool) (h : Nat) : Nat → Bool := fun i => if i < h then g i else f i
theorem c_fits {S : List (Nat × Nat)} {M : zM} {no : zNot} {E : zEn} {tr j h : Nat} (hS : zShp S) (hR : pRf M.2.2) (hno : cNo M.1 no) (wno : noW no) (hL : ∀ g e, g < 24 → 1 ≤ e → e ≤ lgF no → M.1 179 (60 * g + e - 1) = lbS E tr g e) (hj : j < byN no) (hh : h < 24) (ht : tlS no j = true) : gX2_fits S 169 (nI j) (nI h) M = some (bI (ftS E no tr j h)) := by
  have D := cD hS hR
  have O := cO hS hR
  have h24 := wno.1
  have hle := byN_le wno
  have hj2 : j < no.1 := by omega
  have h2 : nK no j ≠ 2 := by
    intro q
    unfold tlS at ht
    rw [if_pos q] at ht
    cases ht
  obtain ⟨w1, w2, w3, w4⟩ := wno.2.2 j hj2
  have wa : 1 ≤ nA no j ∧ nA no j ≤ 60 := w3 h2
  have lge : nA no j ≤ lgF no := (lgS_ge no (byN no) 0 0).2 j (Nat.zero_le _) (by omega) ht
  have k1 : M.1 171 j = nI (nK no j) := (hno.2.2 j hj2).1
  have k2 : M.1 173 j = nI (nA no j) := (hno.2.2 j hj2).2.1
  have k3 : M.1 175 j = nI (nL no j) := (hno.2.2 j hj2).2.2
  have hx : nI h * (60 : Int32) + nI (nA no j) - (1 : Int32) = nI (60 * h + nA no j - 1) := by
    rw [show (60 : Int32) = nI 60 from rfl, pk_mul, nI_add, Nat.mul_comm h 60]
    exact pk_sub (b := 1) (by omega)
  have k4 := hL h (nA no j) hh wa.1 lge
  have lb : gX2_lastBehind S 169 (nI (nA no j)) (nI h) M = some (lbS E tr h (nA no j)) := by
    simp only [gX2_lastBehind, hx]
    simp (disch := first | omega | simp only [qI2, qL2, qC2, qF2]) only [↓D, ↓O, k4]
  have f29 : ∀ x0 : Int32, gX2_fits_29 S 169 (nI j) x0 M = (if nI (nK no j) = 0 then (if x0 = 1 then some 1 else some 0) else (if x0 = 0 then some 1 else some 0)) := fun x0 => by
    simp (disch := first | omega | simp only [qI2, qL2, qC2, qF2]) only [gX2_fits_29, ↓D, ↓O, k1]
  have hk : (nI (nK no j) = 0) ↔ nK no j = 0 := nI_0e (by unfold nK; omega)
  unfold ftS
  simp (disch := first | omega | simp only [qI2, qL2, qC2, qF2]) only [gX2_fits, ↓D, ↓O, k2, ↓bind_of lb, k3, f29, hk]
  by_cases q1 : lbS E tr h (nA no j) < nI (nL no j)
  · rw [if_pos q1, if_pos q1]
    by_cases q2 : nK no j = 0
    · rw [if_pos q2, decide_eq_true q2, if_neg (by decide)]; rfl
    · rw [if_neg q2, decide_eq_false q2]; rfl
  · rw [if_neg q1, if_neg q1]
    by_cases q2 : nK no j = 0
    · rw [if_pos q2, decide_eq_true q2]; rfl
    · rw [if_neg q2, decide_eq_false q2, if_neg (by decide)]; rfl
theorem c_ft15 {S : List (Nat × Nat)} {M : zM} {no : zNot} {E : zEn} {tr j : Nat} {k5 : Nat → Int32 → Int32 → zM → Option Int32} (hS : zShp S) (hR : pRf M.2.2) (hno : cNo M.1 no) (wno : noW no) (hs : ∀ i, i < 24 → M.1 177 i = bI (skF no i)) (hL : ∀ g e, g < 24 → 1 ≤ e → e ≤ lgF no → M.1 179 (60 * g + e - 1) = lbS E tr g e) (hj : j < byN no) : ∀ (k fu h : Nat), h + k = 24 → k < fu →
    gX2_fitting_15 S k5 fu 169 (nI (bs (mixB (hqS E no tr j) (hqS E no tr (j + 1)) h) 24)) (nI j) (nI h) M = k5 169 (nI (bs (hqS E no tr (j + 1)) 24)) (nI (j + 1)) M := by
  have D := cD hS hR
  have h24 := wno.1
  have hle := byN_le wno
  have tl := c_tells hS hR hno wno hs (show j < no.1 by omega)
  have hq1 : ∀ i, hqS E no tr (j + 1) i = (hqS E no tr j i && (!tlS no j || ftS E no tr j i)) := fun i => by
    unfold hqS
    rw [allB_last, Nat.zero_add]
  intro k
  induction k with
  | zero =>
    intro fu h hk hf
    obtain ⟨fu, rfl⟩ : ∃ f, fu = f + 1 := ⟨fu - 1, by omega⟩
    have hb : 24 ≤ h := by omega
    have e : bs (mixB (hqS E no tr j) (hqS E no tr (j + 1)) h) 24 = bs (hqS E no tr (j + 1)) 24 := bs_cg 24 (fun i hi => if_pos (by omega))
    rw [e]
    simp (disch := first | omega | simp only [qI2, qL2, qC2, qF2]) only [gX2_fitting_15, li24, nI_leI, ↓if_pos hb, nI_1]
  | succ k ih =>
    intro fu h hk hf
    obtain ⟨fu, rfl⟩ : ∃ f, fu = f + 1 := ⟨fu - 1, by omega⟩
    have hb : ¬ 24 ≤ h := by omega
    have keep : hqS E no tr (j + 1) h = hqS E no tr j h → bs (mixB (hqS E no tr j) (hqS E no tr (j + 1)) h) 24 = bs (mixB (hqS E no tr j) (hqS E no tr (j + 1)) (h + 1)) 24 := fun e => bs_cg 24 (fun i hi => by
      unfold mixB
      by_cases q : i < h
      · rw [if_pos q, if_pos (by omega)]
      · rw [if_neg q]
        by_cases q2 : i = h
        · subst q2; rw [if_pos (by omega), e]
        · rw [if_neg (by omega)])
    cases ht : tlS no j with
    | false =>
      rw [ht] at tl
      rw [keep (by rw [hq1, ht]; simp)]
      simp (disch := first | omega | simp only [qI2, qL2, qC2, qF2]) only [gX2_fitting_15, li24, nI_leI, if_neg hb, ↓D, ↓bind_of tl, bIf, if_true, nI_1]
      exact ih fu (h + 1) (by omega) (by omega)
    | true =>
      rw [ht] at tl
      have ft := c_fits (E := E) (tr := tr) (h := h) hS hR hno wno hL hj (by omega) ht
      cases hf2 : ftS E no tr j h with
      | true =>
        rw [hf2] at ft
        rw [keep (by rw [hq1, hf2]; simp)]
        simp (disch := first | omega | simp only [qI2, qL2, qC2, qF2]) only [gX2_fitting_15, li24, nI_leI, if_neg hb, ↓D, ↓bind_of tl, if_neg bIt, ↓bind_of ft, nI_1]
        exact ih fu (h + 1) (by omega) (by omega)
      | false =>
        rw [hf2] at ft
        simp (disch := first | omega | simp only [qI2, qL2, qC2, qF2]) only [gX2_fitting_15, li24, nI_leI, if_neg hb, ↓D, ↓bind_of tl, if_neg bIt, ↓bind_of ft, bIf, if_true, nI_1]
        rw [clr24 (show h < 24 by omega)]
        have e : bs (clr (mixB (hqS E no tr j) (hqS E no tr (j + 1)) h) h) 24 = bs (mixB (hqS E no tr j) (hqS E no tr (j + 1)) (h + 1)) 24 := bs_cg 24 (fun i hi => by
          unfold clr mixB
          by_cases q : i < h
          · rw [if_pos q, if_pos (by omega), decide_eq_false (by omega), Bool.not_false, Bool.and_true]
          · rw [if_neg q]
            by_cases q2 : i = h
            · subst q2
              rw [if_pos (by omega), hq1, hf2, ht, decide_eq_true (p := i = i) rfl]
              simp
            · rw [if_neg (by omega), decide_eq_false q2, Bool.not_false, Bool.and_true])
        rw [e]
        exact ih fu (h + 1) (by omega) (by omega)
theorem c_ft5 {S : List (Nat × Nat)} {M : zM} {no : zNot} {E : zEn} {tr : Nat} (hS : zShp S) (hR : pRf M.2.2) (hno : cNo M.1 no) (wno : noW no) (hs : ∀ i, i < 24 → M.1 177 i = bI (skF no i)) (hL : ∀ g e, g < 24 → 1 ≤ e → e ≤ lgF no → M.1 179 (60 * g + e - 1) = lbS E tr g e) : ∀ (k fu j : Nat), j + k = byN no → k < fu →
    gX2_fitting_5 S fu 169 (nI (bs (hqS E no tr j) 24)) (nI j) M = some (nI (hrS E no tr)) := by
  have D := cD hS hR
  have h24 := wno.1
  have hle := byN_le wno
  have by1 := c_byHow ((hS 169 (by decide)).trans rfl) hno wno
  intro k
  induction k with
  | zero =>
    intro fu j hk hf
    obtain ⟨fu, rfl⟩ : ∃ f, fu = f + 1 := ⟨fu - 1, by omega⟩
    have hb : byN no ≤ j := by omega
    have hj : j = byN no := by omega
    simp (disch := first | omega | simp only [qI2, qL2, qC2, qF2]) only [gX2_fitting_5, ↓D, ↓bind_of by1, nI_leI, if_pos hb]
    rw [hj]
    rfl
  | succ k ih =>
    intro fu j hk hf
    obtain ⟨fu, rfl⟩ : ∃ f, fu = f + 1 := ⟨fu - 1, by omega⟩
    have hb : ¬ byN no ≤ j := by omega
    have r : gX2_fitting_15 S (gX2_fitting_5 S fu) zfu 169 (nI (bs (mixB (hqS E no tr j) (hqS E no tr (j + 1)) 0) 24)) (nI j) 0 M = _ := c_ft15 (k5 := gX2_fitting_5 S fu) hS hR hno wno hs hL (show j < byN no by omega) 24 zfu 0 (by omega) (by unfold zfu; omega)
    have e : bs (mixB (hqS E no tr j) (hqS E no tr (j + 1)) 0) 24 = bs (hqS E no tr j) 24 := bs_cg 24 (fun i hi => if_neg (by omega))
    rw [e] at r
    simp (disch := first | omega | simp only [qI2, qL2, qC2, qF2]) only [gX2_fitting_5, ↓D, ↓bind_of by1, nI_leI, if_neg hb, r]
    exact ih fu (j + 1) (by omega) (by omega)
theorem c_fitting {S : List (Nat × Nat)} {M : zM} {no : zNot} {E : zEn} {tr : Nat} (hS : zShp S) (hR : pRf M.2.2) (hno : cNo M.1 no) (wno : noW no) (hs : ∀ i, i < 24 → M.1 177 i = bI (skF no i)) (hL : ∀ g e, g < 24 → 1 ≤ e → e ≤ lgF no → M.1 179 (60 * g + e - 1) = lbS E tr g e) : gX2_fitting S 169 M = some (nI (hrS E no tr)) := by
  have h24 := wno.1
  have hle := byN_le wno
  unfold gX2_fitting
  rw [full24]
  exact c_ft5 hS hR hno wno hs hL (byN no) zfu 0 (by omega) (by unfold zfu; omega)
