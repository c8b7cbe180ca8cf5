/-! pure part 55: plan, the class's side -/
theorem bsb1 {p : Nat → Bool} {h : Nat} (hh : h < 24) : ((nI (bs p 24) >>> (nI h &&& 31)) &&& 1 = (1 : Int32)) ↔ p h = true := by
  rw [bsb hh]
  cases p h with
  | true => exact ⟨fun _ => rfl, fun _ => rfl⟩
  | false => exact ⟨fun h => absurd h (by decide), fun h => (by cases h)⟩
theorem c_fw40 {S : List (Nat × Nat)} {M : zM} {t tr : Nat} {E : zEn} {K : zKa} {k13 : Nat → Nat → Nat → Int32 → zM → Option (Int32 × zM)} (hS : zShp S) (hR : pRf M.2.2) (hT : pTs S M.2.2 t) (hV : pTv M.1 t E) (wE : wfE E) (h7 : M.2.2 192 7 = some t) (htr : tr < eT E) : ∀ (k fu w : Nat) (p : Nat → Bool), w + k = eW E → k < fu → (∀ i, w ≤ i → p i = false) →
    ∃ q : Nat → Bool, gX4_fewest_40 S k13 fu 192 107 134 (nI tr) (lenS E K (moN E) tr) (nI (bs p 24)) (nI w) M = k13 192 107 134 (nI (tr + 1)) (zsI M 196 tr (nI (bs q 24))) ∧ (∀ i, i < w → q i = p i) ∧ ∀ i, w ≤ i → i < eW E → q i = suS E K tr i := by
  have hT6 := wE.1
  have hW5 := wE.2.2.2.1
  have D := cD hS hR
  have L := cL hS hR
  have F := tG hT
  have g7 : ∀ (ρ : Type) (M' : zM) (f : Nat → Option ρ), M'.2.2 = M.2.2 → zgR S M' 192 4 9 7 f = f t := fun ρ M' f h => zgR_of ((hS 192 (by decide)).trans rfl) h7 M' f h
  have hW : M.1 t 10 = nI (eW E) := hV.1.2.2.2.1
  intro k
  induction k with
  | zero =>
    intro fu w p hk hfu hp
    obtain ⟨fu, rfl⟩ : ∃ f, fu = f + 1 := ⟨fu - 1, by omega⟩
    have hc : eW E ≤ w := by omega
    refine ⟨p, ?_, fun _ _ => rfl, fun i h1 h2 => by omega⟩
    simp (disch := first | omega | simp only [qI2, qL2, qC2, qF2]) only [gX4_fewest_40, ↓g7, ↓F, hW, nI_leI, ↓if_pos hc, ↓D, ↓L, nI_1]
  | succ k ih =>
    intro fu w p hk hfu hp
    obtain ⟨fu, rfl⟩ : ∃ f, fu = f + 1 := ⟨fu - 1, by omega⟩
    have hc : ¬ eW E ≤ w := by omega
    have glo := (hV.2.2.2.2.1 w (by omega)).2.1
    have ghi := (hV.2.2.2.2.1 w (by omega)).2.2.1
    have fls : suS E K tr w = false → gX4_fewest_40 S k13 (fu + 1) 192 107 134 (nI tr) (lenS E K (moN E) tr) (nI (bs p 24)) (nI w) M = gX4_fewest_40 S k13 fu 192 107 134 (nI tr) (lenS E K (moN E) tr) (nI (bs p 24)) (nI (w + 1)) M → ∃ q : Nat → Bool, gX4_fewest_40 S k13 (fu + 1) 192 107 134 (nI tr) (lenS E K (moN E) tr) (nI (bs p 24)) (nI w) M = k13 192 107 134 (nI (tr + 1)) (zsI M 196 tr (nI (bs q 24))) ∧ (∀ i, i < w → q i = p i) ∧ ∀ i, w ≤ i → i < eW E → q i = suS E K tr i := by
      intro hs he
      obtain ⟨q, e1, e2, e3⟩ := ih fu (w + 1) p (by omega) (by omega) (fun i hi => hp i (by omega))
      refine ⟨q, he.trans e1, fun i hi => e2 i (by omega), fun i h1 h2 => ?_⟩
      by_cases e : i = w
      · rw [e, e2 w (by omega), hp w (Nat.le_refl _), hs]
      · exact e3 i (by omega) h2
    by_cases r1 : lenS E K (moN E) tr < eLo E w
    · refine fls (by unfold suS; rw [if_pos r1]) ?_
      simp (disch := first | omega | simp only [qI2, qL2, qC2, qF2]) only [gX4_fewest_40, ↓g7, ↓F, hW, nI_leI, if_neg hc, glo, ↓if_pos r1, nI_1]
    · by_cases r2 : eHi E w < lenS E K (moN E) tr
      · refine fls (by unfold suS; rw [if_neg r1, if_pos r2]) ?_
        simp (disch := first | omega | simp only [qI2, qL2, qC2, qF2]) only [gX4_fewest_40, ↓g7, ↓F, hW, nI_leI, if_neg hc, glo, ↓if_neg r1, ghi, ↓if_pos r2, nI_1]
      · have hs : suS E K tr w = true := by unfold suS; rw [if_neg r1, if_neg r2]
        obtain ⟨q, e1, e2, e3⟩ := ih fu (w + 1) (upB p w) (by omega) (by omega) (fun i hi => by
          unfold upB
          rw [if_neg (by omega)]
          exact hp i (by omega))
        refine ⟨q, ?_, fun i hi => ?_, fun i h1 h2 => ?_⟩
        · rw [← e1]
          have o := or24u (p := p) (h := w) (by omega)
          simp (disch := first | omega | simp only [qI2, qL2, qC2, qF2]) only [gX4_fewest_40, ↓g7, ↓F, hW, nI_leI, if_neg hc, glo, ↓if_neg r1, ghi, ↓if_neg r2, nI_1, o]
        · rw [e2 i (by omega)]
          unfold upB
          rw [if_neg (by omega)]
        · by_cases e : i = w
          · rw [e, e2 w (by omega), hs]
            unfold upB
            rw [if_pos rfl]
          · exact e3 i (by omega) h2
theorem c_fw13 {S : List (Nat × Nat)} {R : Nat → Nat → Option Nat} {I : Nat → Nat → Int32} {t : Nat} {E : zEn} {K : zKa} {le : Int32} (hS : zShp S) (hR : pRf R) (ht : t = 43 ∨ t = 75) (hV : pTv I t E) (hK : pSv I 107 E K le) (hC : pCv I 134 167 E (moN E)) (wE : wfE E) (h0 : R 134 0 = some t) (h7 : R 192 7 = some t) : ∀ (k fu tr : Nat) (M : zM), tr + k = eT E → k < fu → M.2.2 = R → (∀ a b, ¬ a = 196 → M.1 a b = I a b) →
    ∃ M', gX4_fewest_13 S fu 192 107 134 (nI tr) M = gX4_fewest_121 S zfu 192 0 M' ∧ M'.2.2 = R ∧ (∀ a b, ¬ a = 196 → M'.1 a b = I a b) ∧ (∀ j, j < tr → M'.1 196 j = M.1 196 j) ∧ ∀ j, tr ≤ j → j < eT E → ∃ q : Nat → Bool, M'.1 196 j = nI (bs q 24) ∧ ∀ i, i < eW E → q i = suS E K j i := by
  have hT6 := wE.1
  have hT := pTs_of hS hR t (Or.inr ht)
  have D := cD hS hR
  have F := tG hT
  have g7 : ∀ (ρ : Type) (M' : zM) (f : Nat → Option ρ), M'.2.2 = R → zgR S M' 192 4 9 7 f = f t := fun ρ M' f h => zgR_of ((hS 192 (by decide)).trans rfl) h7 M' f h
  intro k
  induction k with
  | zero =>
    intro fu tr M hk hfu hMR hI
    obtain ⟨fu, rfl⟩ : ∃ f, fu = f + 1 := ⟨fu - 1, by omega⟩
    have hc : eT E ≤ tr := by omega
    have g1 : M.1 t 1 = nI (eT E) := (hI t 1 (by omega)).trans hV.1.1
    refine ⟨M, ?_, hMR, hI, fun _ _ => rfl, fun j h1 h2 => by omega⟩
    simp (disch := first | omega | simp only [qI2, hMR]) only [gX4_fewest_13, ↓g7, ↓F, g1, nI_leI, ↓if_pos hc]
  | succ k ih =>
    intro fu tr M hk hfu hMR hI
    obtain ⟨fu, rfl⟩ : ∃ f, fu = f + 1 := ⟨fu - 1, by omega⟩
    have hc : ¬ eT E ≤ tr := by omega
    have g1 : M.1 t 1 = nI (eT E) := (hI t 1 (by omega)).trans hV.1.1
    have hV1 : pTv M.1 t E := pTv_cg (fun a b k1 k2 => hI a b (by omega)) hV
    have hK1 : pSv M.1 107 E K le := pSv_cg (fun a b k1 k2 => hI a b (by omega)) hK
    have hC1 : pCv M.1 134 167 E (moN E) := pCv_cg (fun a b q => hI a b (by omega)) hC
    obtain ⟨M1, a1, a2, a3⟩ := e_lengthBy (S := S) (M := M) (c := 134) (t := t) (h := 167) (p := 107) (i := tr) (E := E) (K := K) (le := le) (mo := moN E) (hMR ▸ pCs_of hS hR h0) hC1 (hMR ▸ hT) hV1 (hMR ▸ pSs_of hS hR 107 (by decide)) hK1 wE (by omega)
    have r1R : M1.2.2 = R := a3.trans hMR
    obtain ⟨q, b1, b2, b3⟩ := c_fw40 (S := S) (M := M1) (t := t) (tr := tr) (E := E) (K := K) (k13 := gX4_fewest_13 S fu) hS (r1R ▸ hR) (r1R ▸ hT) (by rw [a2]; exact hV1) wE (by rw [r1R]; exact h7) (by omega) (eW E) zfu 0 (fun _ => false) (by omega) (by have := wE.2.2.2.1; unfold zfu; omega) (fun _ _ => rfl)
    have b0 : nI (bs (fun _ => false) 24) = 0 := by decide
    rw [b0] at b1
    have b1' : gX4_fewest_40 S (gX4_fewest_13 S fu) zfu 192 107 134 (nI tr) (lenS E K (moN E) tr) 0 0 M1 = _ := b1
    obtain ⟨M2, e1, e2, e3, e4, e5⟩ := ih fu (tr + 1) (zsI M1 196 tr (nI (bs q 24))) (by omega) (by omega) r1R (fun a b k => by rw [zsI_ne (by omega), a2]; exact hI a b k)
    refine ⟨M2, ?_, e2, e3, fun j hj => by rw [e4 j (by omega), zsI_ne (by omega), a2], fun j h1 h2 => ?_⟩
    · rw [← e1]
      simp (disch := first | omega | simp only [qI2, hMR]) only [gX4_fewest_13, ↓g7, ↓F, g1, nI_leI, if_neg hc, ↓D, ↓zb2_of a1]
      exact b1'
    · by_cases e : j = tr
      · refine ⟨q, ?_, fun i hi => ?_⟩
        · rw [e, e4 tr (by omega), zsI_at]
        · rw [e]; exact b3 i (Nat.zero_le _) hi
      · exact e5 j (by omega) h2
theorem c_ad27 {S : List (Nat × Nat)} {M : zM} {t : Nat} {E : zEn} {K : zKa} {f : Nat → Nat} {w : Nat} {k2 : Nat → Int32 → zM → Option Int32} (hS : zShp S) (hR : pRf M.2.2) (hT : pTs S M.2.2 t) (hV : pTv M.1 t E) (wE : wfE E) (h7 : M.2.2 192 7 = some t) (hf : ∀ j, f j ≤ 12) (hq : ∀ j, j < eT E → ∃ q : Nat → Bool, M.1 196 j = nI (bs q 24) ∧ ∀ i, i < eW E → q i = suS E K j i) (hg : ∀ j, j < eT E → M.1 194 j = nI (f j)) (hw : w < eW E) : ∀ (k fu tr s : Nat), tr + k = eT E → k < fu → s ≤ 9 + 12 * tr →
    gX4_allDone_27 S k2 fu 192 (nI w) (nI s) (nI tr) M = if s + sR (gvT E K f w) k tr < eNd E w then some 0 else k2 192 (nI (w + 1)) M := by
  have hT6 := wE.1
  have hW5 := wE.2.2.2.1
  have D := cD hS hR
  have L := cL hS hR
  have F := tG hT
  have g7 : ∀ (ρ : Type) (M' : zM) (f : Nat → Option ρ), M'.2.2 = M.2.2 → zgR S M' 192 4 9 7 f = f t := fun ρ M' f h => zgR_of ((hS 192 (by decide)).trans rfl) h7 M' f h
  have g1 : M.1 t 1 = nI (eT E) := hV.1.1
  have gnd := (hV.2.2.2.2.1 w hw).2.2.2
  have hnd := (wE.2.2.2.2.2.2.2.2.2.2.2.1 w hw).2
  intro k
  induction k with
  | zero =>
    intro fu tr s hk hfu hs
    obtain ⟨fu, rfl⟩ : ∃ f, fu = f + 1 := ⟨fu - 1, by omega⟩
    have hc : eT E ≤ tr := by omega
    show _ = if s + 0 < eNd E w then some 0 else k2 192 (nI (w + 1)) M
    simp (disch := first | omega | simp only [qI2, qL2, qC2, qF2]) only [gX4_allDone_27, ↓g7, ↓F, g1, nI_leI, ↓if_pos hc, gnd, nI_1]
    by_cases h : s + 0 < eNd E w
    · rw [if_pos h, if_neg (by omega)]
    · rw [if_neg h, if_pos (by omega)]
  | succ k ih =>
    intro fu tr s hk hfu hs
    obtain ⟨fu, rfl⟩ : ∃ f, fu = f + 1 := ⟨fu - 1, by omega⟩
    have hc : ¬ eT E ≤ tr := by omega
    have c12 := gvT_12 (E := E) (K := K) hf w tr
    rw [show s + sR (gvT E K f w) (k + 1) tr = s + gvT E K f w tr + sR (gvT E K f w) k (tr + 1) from (Nat.add_assoc _ _ _).symm]
    rw [← ih fu (tr + 1) (s + gvT E K f w tr) (by omega) (by omega) (by omega)]
    obtain ⟨q, q1, q2⟩ := hq tr (by omega)
    have gs := hg tr (by omega)
    have q3 := q2 w hw
    have b := bsb1 (p := q) (h := w) (by omega)
    have z : nI s + (0 : Int32) = nI s := Int32.add_zero _
    cases o : suS E K tr w with
    | true =>
      have b' : (nI (bs q 24) >>> (nI w &&& 31)) &&& 1 = (1 : Int32) := b.2 (q3.trans o)
      have c0 : gvT E K f w tr = f tr := by unfold gvT; rw [o]; rfl
      rw [c0]
      simp (disch := first | omega | simp only [qI2, qL2, qC2, qF2]) only [gX4_allDone_27, ↓g7, ↓F, g1, nI_leI, if_neg hc, ↓D, ↓L, q1, ↓if_pos b', gs, nI_add, nI_1]
    | false =>
      have b' : ¬ (nI (bs q 24) >>> (nI w &&& 31)) &&& 1 = (1 : Int32) := fun h => by rw [← q3, b.1 h] at o; cases o
      have c0 : gvT E K f w tr = 0 := by unfold gvT; rw [o]; rfl
      rw [c0]
      simp (disch := first | omega | simp only [qI2, qL2, qC2, qF2]) only [gX4_allDone_27, ↓g7, ↓F, g1, nI_leI, if_neg hc, ↓D, ↓L, q1, ↓if_neg b', z, nI_1]
      rfl
theorem c_ad2 {S : List (Nat × Nat)} {M : zM} {t : Nat} {E : zEn} {K : zKa} {le : Int32} {f : Nat → Nat} (hS : zShp S) (hR : pRf M.2.2) (hT : pTs S M.2.2 t) (hV : pTv M.1 t E) (hK : pSv M.1 107 E K le) (wE : wfE E) (hwt : ∀ w, w < 5 → kWt K w ≤ 9) (h7 : M.2.2 192 7 = some t) (h8 : M.2.2 192 8 = some 107) (hf : ∀ j, f j ≤ 12) (hq : ∀ j, j < eT E → ∃ q : Nat → Bool, M.1 196 j = nI (bs q 24) ∧ ∀ i, i < eW E → q i = suS E K j i) (hg : ∀ j, j < eT E → M.1 194 j = nI (f j)) : ∀ (k fu w : Nat), w + k = eW E → k < fu →
    gX4_allDone_2 S fu 192 (nI w) M = some (bI (allS E K f k w)) := by
  have hT6 := wE.1
  have hW5 := wE.2.2.2.1
  have N := cN hS hR
  have F := tG hT
  have g7 : ∀ (ρ : Type) (M' : zM) (f : Nat → Option ρ), M'.2.2 = M.2.2 → zgR S M' 192 4 9 7 f = f t := fun ρ M' f h => zgR_of ((hS 192 (by decide)).trans rfl) h7 M' f h
  have g8 : ∀ (ρ : Type) (M' : zM) (f : Nat → Option ρ), M'.2.2 = M.2.2 → zgR S M' 192 4 9 8 f = f 107 := fun ρ M' f h => zgR_of ((hS 192 (by decide)).trans rfl) h8 M' f h
  have hW : M.1 t 10 = nI (eW E) := hV.1.2.2.2.1
  intro k
  induction k with
  | zero =>
    intro fu w hk hfu
    obtain ⟨fu, rfl⟩ : ∃ f, fu = f + 1 := ⟨fu - 1, by omega⟩
    have hc : eW E ≤ w := by omega
    simp (disch := first | omega | simp only [qI2, qL2, qC2, qF2]) only [gX4_allDone_2, ↓g7, ↓F, hW, nI_leI, ↓if_pos hc]
    rfl
  | succ k ih =>
    intro fu w hk hfu
    obtain ⟨fu, rfl⟩ : ∃ f, fu = f + 1 := ⟨fu - 1, by omega⟩
    have hc : ¬ eW E ≤ w := by omega
    have gwt : M.1 115 w = nI (kWt K w) := hK.2.2.2 w (by omega)
    have hw9 := hwt w (by omega)
    have r := c_ad27 (S := S) (M := M) (t := t) (E := E) (K := K) (f := f) (w := w) (k2 := gX4_allDone_2 S fu) hS hR hT hV wE h7 hf hq hg (by omega) (eT E) zfu 0 (kWt K w) (by omega) (by unfold zfu; omega) (by omega)
    have r' : gX4_allDone_27 S (gX4_allDone_2 S fu) zfu 192 (nI w) (nI (kWt K w)) 0 M = _ := r
    simp (disch := first | omega | simp only [qI2, qL2, qC2, qF2]) only [gX4_allDone_2, ↓g7, ↓F, hW, nI_leI, if_neg hc, ↓g8, ↓N, gwt]
    rw [r']
    unfold allS
    by_cases h : kWt K w + sR (gvT E K f w) (eT E) 0 < eNd E w
    · rw [if_pos h, if_pos h]; rfl
    · rw [if_neg h, if_neg h]
      exact ih fu (w + 1) (by omega) (by omega)
theorem c_s50 {S : List (Nat × Nat)} {R : Nat → Nat → Option Nat} {I : Nat → Nat → Int32} {E : zEn} {K : zKa} {r t d : Nat} {rk : Nat → Int32 → Int32 → zM → Option (Int32 × zM)} (hS : zShp S) (hR : pRf R) (wE : wfE E) (ht : t < eT E) (hd : d ≤ 12) (hrk : ∀ (d' : Nat) (f' : Nat → Nat) (M : zM), d' ≤ 12 → (∀ j, f' j ≤ 12) → M.2.2 = R → (∀ a b, ¬ a = 194 → M.1 a b = I a b) → (∀ j, j < t + 1 → M.1 194 j = nI (f' j)) → ∃ (v : Int32) (M' : zM), rk 192 (nI (t + 1)) (nI d') M = some (v, M') ∧ M'.2.2 = R ∧ (∀ a b, ¬ a = 194 → M'.1 a b = I a b) ∧ gvR (gvS E K r d' f') v (M'.1 194) (eT E) (t + 1) f') : ∀ (n fu : Nat) (f : Nat → Nat) (M : zM), n ≤ d → n + 1 < fu → (∀ j, f j ≤ 12) → M.2.2 = R → (∀ a b, ¬ a = 194 → M.1 a b = I a b) → (∀ j, j < t → M.1 194 j = nI (f j)) →
    ∃ (v : Int32) (M' : zM), gX4_spreads_47 S rk fu 192 (nI t) (nI d) 0 (nI n) M = some (v, M') ∧ M'.2.2 = R ∧ (∀ a b, ¬ a = 194 → M'.1 a b = I a b) ∧ gvR (gvL (gvS E K r) t d f n) v (M'.1 194) (eT E) t f := by
  have hT6 := wE.1
  have n10 : ¬ (1 : Int32) = 0 := by decide
  have D := cD hS hR
  have L := cL hS hR
  intro n
  induction n with
  | zero =>
    intro fu f M hn hfu hf hMR hI hrow
    obtain ⟨fu, rfl⟩ : ∃ f, fu = f + 2 := ⟨fu - 2, by omega⟩
    have c0 : ¬ nI 0 < 0 := by decide
    have c1 : (nI 0 + (-1 : Int32)) < 0 := by decide
    have sb : nI d - nI 0 = nI d := pk_sub (Nat.zero_le d)
    obtain ⟨v, M', e1, e2, e3, e4, e5⟩ := hrk d (uqN f t 0) (zsI M 194 t (nI 0)) hd (uqN_12 hf (by omega)) hMR (fun a b q => by rw [zsI_ne (by omega)]; exact hI a b q) (fun j hj => by
      by_cases q : j = t
      · rw [q, zsI_at]; unfold uqN; rw [if_pos rfl]
      · rw [zsI_ne (by omega), hrow j (by omega)]; unfold uqN; rw [if_neg q])
    cases o : gvS E K r d (uqN f t 0) with
    | some g =>
      obtain ⟨hv, hg⟩ := e4 g o
      subst hv
      refine ⟨1, M', ?_, e2, e3, ⟨fun g2 h2 => ?_, fun h2 => ?_⟩⟩
      · simp (disch := first | omega | simp only [qI2, hMR]) only [gX4_spreads_47, ↓if_neg c0, ↓D, ↓L, nI_1, sb, ↓zb2_of e1, ↓if_neg n10]
      · have h3 : gvS E K r d (uqN f t 0) = some g2 := h2
        rw [o] at h3
        cases h3
        exact ⟨rfl, hg⟩
      · have h3 : gvS E K r d (uqN f t 0) = none := h2
        rw [o] at h3
        cases h3
    | none =>
      obtain ⟨hv, hg⟩ := e5 o
      subst hv
      refine ⟨0, M', ?_, e2, e3, ⟨fun g2 h2 => ?_, fun h2 => ⟨rfl, fun j hj => ?_⟩⟩⟩
      · simp (disch := first | omega | simp only [qI2, hMR]) only [gX4_spreads_47, ↓if_neg c0, ↓D, ↓L, nI_1, sb, ↓zb2_of e1, if_true, ↓if_pos c1]
      · have h3 : gvS E K r d (uqN f t 0) = some g2 := h2
        rw [o] at h3
        cases h3
      · rw [hg j (by omega)]
        unfold uqN
        rw [if_neg (by omega)]
  | succ n ih =>
    intro fu f M hn hfu hf hMR hI hrow
    obtain ⟨fu, rfl⟩ : ∃ f, fu = f + 1 := ⟨fu - 1, by omega⟩
    have c0 : ¬ nI (n + 1) < 0 := nI_pos (by omega)
    have sb : nI d - nI (n + 1) = nI (d - (n + 1)) := pk_sub hn
    obtain ⟨v, M', e1, e2, e3, e4, e5⟩ := hrk (d - (n + 1)) (uqN f t (n + 1)) (zsI M 194 t (nI (n + 1))) (by omega) (uqN_12 hf (by omega)) hMR (fun a b q => by rw [zsI_ne (by omega)]; exact hI a b q) (fun j hj => by
      by_cases q : j = t
      · rw [q, zsI_at]; unfold uqN; rw [if_pos rfl]
      · rw [zsI_ne (by omega), hrow j (by omega)]; unfold uqN; rw [if_neg q])
    have un : gvL (gvS E K r) t d f (n + 1) = match gvS E K r (d - (n + 1)) (uqN f t (n + 1)) with | some g => some g | none => gvL (gvS E K r) t d f n := rfl
    rw [un]
    cases o : gvS E K r (d - (n + 1)) (uqN f t (n + 1)) with
    | some g =>
      obtain ⟨hv, hg⟩ := e4 g o
      subst hv
      refine ⟨1, M', ?_, e2, e3, ⟨fun g2 h2 => ?_, fun h2 => ?_⟩⟩
      · simp (disch := first | omega | simp only [qI2, hMR]) only [gX4_spreads_47, ↓if_neg c0, ↓D, ↓L, nI_1, sb, ↓zb2_of e1, ↓if_neg n10]
      · cases h2
        exact ⟨rfl, hg⟩
      · cases h2
    | none =>
      obtain ⟨hv, hg⟩ := e5 o
      subst hv
      obtain ⟨v2, M2, d1, d2, d3, d4⟩ := ih fu f M' (by omega) (by omega) hf e2 e3 (fun j hj => by
        rw [hg j (by omega)]
        unfold uqN
        rw [if_neg (by omega)])
      refine ⟨v2, M2, ?_, d2, d3, d4⟩
      rw [← d1]
      simp (disch := first | omega | simp only [qI2, hMR]) only [gX4_spreads_47, ↓if_neg c0, ↓D, ↓L, nI_1, sb, ↓zb2_of e1, if_true, pk_m1]
theorem gvL_none {E : zEn} {K : zKa} {t d : Nat} {f : Nat → Nat} : ∀ n, n < d → gvL (gvS E K 0) t d f n = none
  | 0, h => if_neg (by omega)
  | n + 1, h => by
    have e : gvS E K 0 (d - (n + 1)) (uqN f t (n + 1)) = none := if_neg (by omega)
    have un : gvL (gvS E K 0) t d f (n + 1) = match gvS E K 0 (d - (n + 1)) (uqN f t (n + 1)) with | some g => some g | none => gvL (gvS E K 0) t d f n := rfl
    rw [un, e]
    exact gvL_none n (by omega)
theorem gvL_last {E : zEn} {K : zKa} {t d : Nat} {f : Nat → Nat} : gvL (gvS E K 0) t d f d = gvS E K 0 0 (uqN f t d) := by
  cases d with
  | zero => rfl
  | succ n =>
    have un : gvL (gvS E K 0) t (n + 1) f (n + 1) = match gvS E K 0 (n + 1 - (n + 1)) (uqN f t (n + 1)) with | some g => some g | none => gvL (gvS E K 0) t (n + 1) f n := rfl
    rw [un, Nat.sub_self]
    cases o : gvS E K 0 0 (uqN f t (n + 1)) with
    | some g => rfl
    | none => exact gvL_none n (Nat.lt_succ_self n)
theorem c_spreads {S : List (Nat × Nat)} {R : Nat → Nat → Option Nat} {I : Nat → Nat → Int32} {t : Nat} {E : zEn} {K : zKa} {le : Int32} (hS : zShp S) (hR : pRf R) (ht : t = 43 ∨ t = 75) (hV : pTv I t E) (hK : pSv I 107 E K le) (wE : wfE E) (hwt : ∀ w, w < 5 → kWt K w ≤ 9) (h7 : R 192 7 = some t) (h8 : R 192 8 = some 107) (hq : ∀ j, j < eT E → ∃ q : Nat → Bool, I 196 j = nI (bs q 24) ∧ ∀ i, i < eW E → q i = suS E K j i) : ∀ (r fuel tr d : Nat) (f : Nat → Nat) (M : zM), tr + r = eT E → r < fuel → d ≤ 12 → (∀ j, f j ≤ 12) → M.2.2 = R → (∀ a b, ¬ a = 194 → M.1 a b = I a b) → (∀ j, j < tr → M.1 194 j = nI (f j)) →
    ∃ (v : Int32) (M' : zM), gX4_spreads S fuel 192 (nI tr) (nI d) M = some (v, M') ∧ M'.2.2 = R ∧ (∀ a b, ¬ a = 194 → M'.1 a b = I a b) ∧ gvR (gvS E K r d f) v (M'.1 194) (eT E) tr f := by
  have hT6 := wE.1
  have hW5 := wE.2.2.2.1
  have hT := pTs_of hS hR t (Or.inr ht)
  have D := cD hS hR
  have L := cL hS hR
  have F := tG hT
  have g7 : ∀ (ρ : Type) (M' : zM) (f : Nat → Option ρ), M'.2.2 = R → zgR S M' 192 4 9 7 f = f t := fun ρ M' f h => zgR_of ((hS 192 (by decide)).trans rfl) h7 M' f h
  have n10 : ¬ (1 : Int32) = 0 := by decide
  intro r
  induction r with
  | zero =>
    intro fuel tr d f M hk hfu hd hf hMR hI hrow
    obtain ⟨fu, rfl⟩ : ∃ f, fuel = f + 1 := ⟨fuel - 1, by omega⟩
    have e : tr = eT E := by omega
    subst e
    have hc : ¬ eT E < eT E := Nat.lt_irrefl _
    have g1 : M.1 t 1 = nI (eT E) := (hI t 1 (by omega)).trans hV.1.1
    show ∃ (v : Int32) (M' : zM), gX4_spreadsB S (gX4_spreads S fu) 192 (nI (eT E)) (nI d) M = some (v, M') ∧ _
    by_cases h0 : d = 0
    · subst h0
      have da := c_ad2 (S := S) (M := M) (t := t) (E := E) (K := K) (le := le) (f := f) hS (hMR ▸ hR) (hMR ▸ hT) (pTv_cg (fun a b k1 k2 => hI a b (by omega)) hV) (pSv_cg (fun a b k1 k2 => hI a b (by omega)) hK) wE hwt (by rw [hMR]; exact h7) (by rw [hMR]; exact h8) hf (fun j hj => by rw [hI 196 j (by omega)]; exact hq j hj) hrow (eW E) zfu 0 (by omega) (by unfold zfu; omega)
      have da' : gX4_allDone S 192 M = some (bI (allS E K f (eW E) 0)) := da
      cases o : allS E K f (eW E) 0 with
      | true =>
        rw [o] at da'
        refine ⟨1, M, ?_, hMR, hI, ⟨fun g hg => ⟨rfl, ?_⟩, fun h => ?_⟩⟩
        · simp (disch := first | omega | simp only [qI2, hMR]) only [gX4_spreadsB, ↓g7, ↓F, g1, nI_ltI, if_neg hc, if_true, nI_0, ↓D, ↓bind_of da', if_neg bIt]
        · have h3 : (if allS E K f (eW E) 0 then some f else none) = some g := hg
          rw [o, if_pos rfl] at h3
          cases h3
          exact hrow
        · have h3 : (if allS E K f (eW E) 0 then some f else none) = none := h
          rw [o, if_pos rfl] at h3
          cases h3
      | false =>
        rw [o] at da'
        refine ⟨0, M, ?_, hMR, hI, ⟨fun g hg => ?_, fun h => ⟨rfl, hrow⟩⟩⟩
        · simp (disch := first | omega | simp only [qI2, hMR]) only [gX4_spreadsB, ↓g7, ↓F, g1, nI_ltI, if_neg hc, if_true, nI_0, ↓D, ↓bind_of da', bIf]
        · have h3 : (if allS E K f (eW E) 0 then some f else none) = some g := hg
          rw [o, if_neg Bool.false_ne_true] at h3
          cases h3
    · have d0 : ¬ nI d = 0 := fun h => h0 ((nI_0e (by omega)).1 h)
      have o : gvS E K 0 d f = none := if_neg h0
      refine ⟨0, M, ?_, hMR, hI, ⟨fun g hg => ?_, fun h => ⟨rfl, hrow⟩⟩⟩
      · simp (disch := first | omega | simp only [qI2, hMR]) only [gX4_spreadsB, ↓g7, ↓F, g1, nI_ltI, if_neg hc, if_neg d0]
      · rw [o] at hg
        cases hg
  | succ r ih =>
    intro fuel tr d f M hk hfu hd hf hMR hI hrow
    obtain ⟨fu, rfl⟩ : ∃ f, fuel = f + 1 := ⟨fuel - 1, by omega⟩
    have hlt : tr < eT E := by omega
    have g1 : M.1 t 1 = nI (eT E) := (hI t 1 (by omega)).trans hV.1.1
    have un : gvS E K (r + 1) d f = gvL (gvS E K r) tr d f d := by
      show gvL (gvS E K r) (eT E - (r + 1)) d f d = _
      rw [show eT E - (r + 1) = tr by omega]
    rw [un]
    have hrk := fun (d' : Nat) (f' : Nat → Nat) (M2 : zM) k1 k2 k3 k4 k5 => ih fu (tr + 1) d' f' M2 (by omega) (by omega) k1 k2 k3 k4 k5
    by_cases hl : eT E ≤ tr + 1
    · have hr0 : r = 0 := by omega
      subst hr0
      rw [gvL_last]
      obtain ⟨v, M', e1, e2, e3, e4, e5⟩ := hrk 0 (uqN f tr d) (zsI M 194 tr (nI d)) (by omega) (uqN_12 hf hd) hMR (fun a b q => by rw [zsI_ne (by omega)]; exact hI a b q) (fun j hj => by
        by_cases q : j = tr
        · rw [q, zsI_at]; unfold uqN; rw [if_pos rfl]
        · rw [zsI_ne (by omega), hrow j (by omega)]; unfold uqN; rw [if_neg q])
      obtain ⟨z2, hz2⟩ : ∃ z, zfu = z + 2 := ⟨zfu - 2, by unfold zfu; omega⟩
      have c0 : ¬ nI d < nI d := nI_nlt (Nat.le_refl _) (by omega)
      have sb : nI d - nI d = nI 0 := by rw [pk_sub (Nat.le_refl _), Nat.sub_self]
      have st : gX4_spreadsB S (gX4_spreads S fu) 192 (nI tr) (nI d) M = gX4_spreads_47 S (gX4_spreads S fu) (z2 + 2) 192 (nI tr) (nI d) (nI d) (nI d) M := by
        simp (disch := first | omega | simp only [qI2, hMR]) only [gX4_spreadsB, ↓g7, ↓F, g1, nI_ltI, ↓if_pos hlt, nI_1, nI_leI, ↓if_pos hl, hz2]
      cases o : gvS E K 0 0 (uqN f tr d) with
      | some g =>
        obtain ⟨hv, hg⟩ := e4 g o
        subst hv
        refine ⟨1, M', ?_, e2, e3, ⟨fun g2 h2 => (by cases h2; exact ⟨rfl, hg⟩), fun h2 => (by cases h2)⟩⟩
        show gX4_spreadsB S (gX4_spreads S fu) 192 (nI tr) (nI d) M = _
        rw [st]
        simp (disch := first | omega | simp only [qI2, hMR]) only [gX4_spreads_47, ↓if_neg c0, ↓D, ↓L, nI_1, sb, ↓zb2_of e1, ↓if_neg n10]
      | none =>
        obtain ⟨hv, hg⟩ := e5 o
        subst hv
        refine ⟨0, M', ?_, e2, e3, ⟨fun g2 h2 => (by cases h2), fun h2 => ⟨rfl, fun j hj => ?_⟩⟩⟩
        · show gX4_spreadsB S (gX4_spreads S fu) 192 (nI tr) (nI d) M = _
          rw [st]
          have c1 : (nI d + (-1 : Int32)) < nI d := by
            cases d with
            | zero => decide
            | succ n => rw [pk_m1]; exact nI_lt (Nat.lt_succ_self n) (by omega)
          simp (disch := first | omega | simp only [qI2, hMR]) only [gX4_spreads_47, ↓if_neg c0, ↓D, ↓L, nI_1, sb, ↓zb2_of e1, if_true, ↓if_pos c1]
        · rw [hg j (by omega)]
          unfold uqN
          rw [if_neg (by omega)]
    · obtain ⟨v, M', e1, e2⟩ := c_s50 (rk := gX4_spreads S fu) (S := S) (R := R) (I := I) (E := E) (K := K) (r := r) (t := tr) (d := d) hS hR wE hlt hd hrk d zfu f M (Nat.le_refl _) (by unfold zfu; omega) hf hMR hI hrow
      refine ⟨v, M', ?_, e2⟩
      rw [← e1]
      show gX4_spreadsB S (gX4_spreads S fu) 192 (nI tr) (nI d) M = _
      simp (disch := first | omega | simp only [qI2, hMR]) only [gX4_spreadsB, ↓g7, ↓F, g1, nI_ltI, ↓if_pos hlt, nI_1, nI_leI, if_neg hl]
theorem c_f121 {S : List (Nat × Nat)} {R : Nat → Nat → Option Nat} {I : Nat → Nat → Int32} {t : Nat} {E : zEn} {K : zKa} {le : Int32} (hS : zShp S) (hR : pRf R) (ht : t = 43 ∨ t = 75) (hV : pTv I t E) (hK : pSv I 107 E K le) (wE : wfE E) (hwt : ∀ w, w < 5 → kWt K w ≤ 9) (h7 : R 192 7 = some t) (h8 : R 192 8 = some 107) (hq : ∀ j, j < eT E → ∃ q : Nat → Bool, I 196 j = nI (bs q 24) ∧ ∀ i, i < eW E → q i = suS E K j i) : ∀ (k fu d : Nat) (M : zM), d + k = 13 → k < fu → M.2.2 = R → (∀ a b, ¬ a = 194 → M.1 a b = I a b) →
    ∃ (v : Int32) (M' : zM), gX4_fewest_121 S fu 192 (nI d) M = some (v, M') ∧ M'.2.2 = R ∧ (∀ a b, ¬ a = 194 → M'.1 a b = I a b) ∧ plR (plS (pl0 E K) k d) v (M'.1 194) (eT E) := by
  have hT6 := wE.1
  have D := cD hS hR
  have n10 : ¬ (1 : Int32) = 0 := by decide
  intro k
  induction k with
  | zero =>
    intro fu d M hk hfu hMR hI
    obtain ⟨fu, rfl⟩ : ∃ f, fu = f + 1 := ⟨fu - 1, by omega⟩
    have hc : 12 < d := by omega
    refine ⟨-2, M, ?_, hMR, hI, ⟨fun q h => (by cases h), fun _ => rfl⟩⟩
    simp (disch := first | omega | simp only [qI2, hMR]) only [gX4_fewest_121, li12, nI_ltI, ↓if_pos hc]
  | succ k ih =>
    intro fu d M hk hfu hMR hI
    obtain ⟨fu, rfl⟩ : ∃ f, fu = f + 1 := ⟨fu - 1, by omega⟩
    have hc : ¬ 12 < d := by omega
    obtain ⟨v, M', e1, e2, e3, e4, e5⟩ := c_spreads hS hR ht hV hK wE hwt h7 h8 hq (eT E) 12 0 d (fun _ => 0) M (by omega) (by omega) (by omega) (fun _ => Nat.zero_le _) hMR hI (fun j hj => by omega)
    have e1' : gX4_spreads S 12 192 0 (nI d) M = some (v, M') := e1
    have un : plS (pl0 E K) (k + 1) d = match gvS E K (eT E) d (fun _ => 0) with | some f => some (d, f) | none => plS (pl0 E K) k (d + 1) := rfl
    rw [un]
    cases o : gvS E K (eT E) d (fun _ => 0) with
    | some g =>
      obtain ⟨hv, hg⟩ := e4 g o
      subst hv
      refine ⟨nI d, M', ?_, e2, e3, ⟨fun q h => (by cases h; exact ⟨rfl, hg⟩), fun h => (by cases h)⟩⟩
      simp (disch := first | omega | simp only [qI2, hMR]) only [gX4_fewest_121, li12, nI_ltI, ↓if_neg hc, ↓D]
      rw [e1']
      rfl
    | none =>
      obtain ⟨hv, hg⟩ := e5 o
      subst hv
      obtain ⟨v2, M2, d1, d2, d3, d4⟩ := ih fu (d + 1) M' (by omega) (by omega) e2 e3
      refine ⟨v2, M2, ?_, d2, d3, d4⟩
      rw [← d1]
      simp (disch := first | omega | simp only [qI2, hMR]) only [gX4_fewest_121, li12, nI_ltI, ↓if_neg hc, ↓D]
      rw [e1']
      show gX4_fewest_121 S fu 192 (nI d + 1) M' = _
      rw [nI_1]
