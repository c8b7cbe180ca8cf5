/-! pure part 46: hours, the model; the call -/
def mQ9 (a b : Nat) : Prop := mQ a b ∨ (a = 306 ∧ b = 49)
theorem vnB0 : vp_nar .boolean 0 = 0 := rfl
theorem vnB1 : vp_nar .boolean 1 = 1 := rfl
def mNc (I : Nat → Nat → Int32) (no : zNot) : Prop := mNo I no
theorem mNo_cg {I I' : Nat → Nat → Int32} {no : zNot} (h : ∀ a b, (a = 306 ∧ (b = 58 ∨ b = 59)) ∨ (342 ≤ a ∧ a ≤ 345) → I' a b = I a b) (hno : mNo I no) : mNo I' no :=
  ⟨(h 306 58 (by omega)).trans hno.1, (h 306 59 (by omega)).trans hno.2.1, fun j hj => ⟨(h 345 j (by omega)).trans (hno.2.2 j hj).1, fun r => ⟨(h 342 j (by omega)).trans ((hno.2.2 j hj).2 r).1, (h 343 j (by omega)).trans ((hno.2.2 j hj).2 r).2.1, (h 344 j (by omega)).trans ((hno.2.2 j hj).2 r).2.2⟩⟩⟩
theorem m_ho32 {S : List (Nat × Nat)} {R : Nat → Nat → Option Nat} {I : Nat → Nat → Int32} {no : zNot} {x1 : Int32} (hS : pMs S R) (hno : mNo I no) (wno : noW no) : ∀ (j fu : Nat) (s : Nat → Bool) (M : zM), M.2.2 = R → (∀ a b, ¬ a = 346 → M.1 a b = I a b) → (∀ i, i < byN no → M.1 346 i = bI (s i)) → j ≤ byN no → j < fu →
    ∃ M', gX12_hoursOf_32 S fu 306 x1 0 (jm j) M = gX12_hoursOf_75 S zfu 306 x1 0 0 M' ∧ M'.2.2 = R ∧ (∀ a b, ¬ a = 346 → M'.1 a b = I a b) ∧ (∀ i, i < byN no → M'.1 346 i = bI (skS no j s i)) := by
  have h24 := wno.1
  have hle := byN_le wno
  intro j
  induction j with
  | zero =>
    intro fu s M hMR hI hs hj hf
    obtain ⟨fu, rfl⟩ : ∃ f, fu = f + 1 := ⟨fu - 1, by omega⟩
    refine ⟨M, ?_, hMR, hI, hs⟩
    simp only [gX12_hoursOf_32]
    exact if_pos (by decide)
  | succ j ih =>
    intro fu s M hMR hI hs hj hf
    obtain ⟨fu, rfl⟩ : ∃ f, fu = f + 1 := ⟨fu - 1, by omega⟩
    have hSM : pMs S M.2.2 := hMR ▸ hS
    have z : ¬ nI j < 0 := nI_pos (by omega)
    have hno2 := (hno.2.2 j (by omega)).1
    have k1 : M.1 345 j = (if nK no j = 2 then nI (nA no j) else -1) := by rw [hI _ _ (by decide)]; exact hno2
    have k3 := hs j (by omega)
    obtain ⟨w1, w2, w3, w4⟩ := wno.2.2 j (by omega)
    rw [jm_s]
    have sk : skS no (j + 1) s = skS no j (if nK no j = 2 then (if s j then s else upB s (nA no j)) else s) := rfl
    rw [sk]
    cases hsj : s j with
    | true =>
      rw [hsj] at k3
      obtain ⟨M', e1, e2, e3, e4⟩ := ih fu s M hMR hI hs (by omega) (by omega)
      have e : (if nK no j = 2 then (if true = true then s else upB s (nA no j)) else s) = s := by
        split
        · exact if_pos rfl
        · rfl
      rw [e]
      refine ⟨M', ?_, e2, e3, e4⟩
      simp (disch := first | omega | simp only [qI2, qL2, qC2, qF2]) only [gX12_hoursOf_32, ↓if_neg z, ↓mH hSM, ↓mG hSM, k3, if_neg bIt, jm_m]
      exact e1
    | false =>
      rw [hsj] at k3
      by_cases q : nK no j = 2
      · rw [if_pos q] at k1
        have ha : nA no j < j := w2 q
        have z2 : ¬ nI (nA no j) = -1 := nI_m1ne (by omega)
        obtain ⟨M', e1, e2, e3, e4⟩ := ih fu (upB s (nA no j)) (zsI M 346 (nA no j) 1) hMR (fun a b h => by rw [zsI_ne (by omega)]; exact hI a b h) (fun i hi => by
          unfold upB
          by_cases q2 : i = nA no j
          · rw [if_pos q2, q2, zsI_at]; rfl
          · rw [if_neg q2, zsI_ne (by omega)]; exact hs i hi) (by omega) (by omega)
        rw [if_pos q, if_neg Bool.false_ne_true]
        refine ⟨M', ?_, e2, e3, e4⟩
        simp (disch := first | omega | simp only [qI2, qL2, qC2, qF2]) only [gX12_hoursOf_32, ↓if_neg z, ↓mH hSM, ↓mG hSM, k3, bIf, if_true, k1, ↓if_neg z2, vnB1, jm_m]
        exact e1
      · rw [if_neg q] at k1
        obtain ⟨M', e1, e2, e3, e4⟩ := ih fu s M hMR hI hs (by omega) (by omega)
        rw [if_neg q]
        refine ⟨M', ?_, e2, e3, e4⟩
        simp (disch := first | omega | simp only [qI2, qL2, qC2, qF2]) only [gX12_hoursOf_32, ↓if_neg z, ↓mH hSM, ↓mG hSM, k3, bIf, if_true, k1, jm_m]
        exact e1
theorem m_ho4 {S : List (Nat × Nat)} {R : Nat → Nat → Option Nat} {I : Nat → Nat → Int32} {no : zNot} {x1 : Int32} (hS : pMs S R) (hno : mNo I no) (wno : noW no) : ∀ (k fu j : Nat) (M : zM), M.2.2 = R → (∀ a b, ¬ a = 346 → M.1 a b = I a b) → j + k = byN no → k < fu → (∀ i, i < j → M.1 346 i = 0) →
    ∃ M', gX12_hoursOf_4 S fu 306 x1 0 (nI j) M = gX12_hoursOf_75 S zfu 306 x1 0 0 M' ∧ M'.2.2 = R ∧ (∀ a b, ¬ a = 346 → M'.1 a b = I a b) ∧ (∀ i, i < byN no → M'.1 346 i = bI (skF no i)) := by
  have h24 := wno.1
  have hle := byN_le wno
  intro k
  induction k with
  | zero =>
    intro fu j M hMR hI hk hf hz
    obtain ⟨fu, rfl⟩ : ∃ f, fu = f + 1 := ⟨fu - 1, by omega⟩
    have hSM : pMs S M.2.2 := hMR ▸ hS
    have by1 := m_knownMany (M := M) hSM (mNo_cg (fun a b q => hI a b (by omega)) hno) wno
    have hb : byN no ≤ j := by omega
    obtain ⟨M', e1, e2, e3, e4⟩ := m_ho32 (x1 := x1) hS hno wno (byN no) zfu (fun _ => false) M hMR hI (fun i hi => by rw [hz i (by omega)]; rfl) (Nat.le_refl _) (by unfold zfu; omega)
    refine ⟨M', ?_, e2, e3, e4⟩
    simp (disch := first | omega | simp only [qI2, qL2, qC2, qF2]) only [gX12_hoursOf_4, ↓mH hSM, ↓bind_of by1, nI_leI, if_pos hb, jm_d]
    exact e1
  | succ k ih =>
    intro fu j M hMR hI hk hf hz
    obtain ⟨fu, rfl⟩ : ∃ f, fu = f + 1 := ⟨fu - 1, by omega⟩
    have hSM : pMs S M.2.2 := hMR ▸ hS
    have by1 := m_knownMany (M := M) hSM (mNo_cg (fun a b q => hI a b (by omega)) hno) wno
    have hb : ¬ byN no ≤ j := by omega
    obtain ⟨M', e1, e2, e3, e4⟩ := ih fu (j + 1) (zsI M 346 j 0) hMR (fun a b h => by rw [zsI_ne (by omega)]; exact hI a b h) (by omega) (by omega) (fun i hi => by
      by_cases q : i = j
      · rw [q, zsI_at]
      · rw [zsI_ne (by omega)]; exact hz i (by omega))
    refine ⟨M', ?_, e2, e3, e4⟩
    simp (disch := first | omega | simp only [qI2, qL2, qC2, qF2]) only [gX12_hoursOf_4, ↓mH hSM, ↓bind_of by1, nI_leI, if_neg hb, ↓mG hSM, vnB0, nI_1]
    exact e1
theorem tl_m {no : zNot} {j : Nat} : tlS no j = (!decide (nK no j = 2) && !skF no j) := by
  unfold tlS
  by_cases q : nK no j = 2
  · rw [if_pos q, decide_eq_true q]; rfl
  · rw [if_neg q, decide_eq_false q]
    cases skF no j <;> rfl
theorem m_ho75 {S : List (Nat × Nat)} {M : zM} {no : zNot} {x1 : Int32} (hS : pMs S M.2.2) (hno : mNo M.1 no) (wno : noW no) (hs : ∀ i, i < byN no → M.1 346 i = bI (skF no i)) : ∀ (k fu j x : Nat), j + k = byN no → x ≤ 60 → k < fu → gX12_hoursOf_75 S fu 306 x1 (nI x) (nI j) M = gX12_hoursOf_129 S zfu 306 (nI (lgS no k j x)) 0 0 (zsI M 306 49 x1) := by
  have h24 := wno.1
  have hle := byN_le wno
  have by1 := m_knownMany hS hno wno
  intro k
  induction k with
  | zero =>
    intro fu j x hk hx hf
    obtain ⟨fu, rfl⟩ : ∃ f, fu = f + 1 := ⟨fu - 1, by omega⟩
    have hb : byN no ≤ j := by omega
    simp (disch := first | omega | simp only [qI2, qL2, qC2, qF2]) only [gX12_hoursOf_75, ↓mH hS, ↓bind_of by1, nI_leI, if_pos hb]
    rfl
  | succ k ih =>
    intro fu j x hk hx hf
    obtain ⟨fu, rfl⟩ : ∃ f, fu = f + 1 := ⟨fu - 1, by omega⟩
    have hb : ¬ byN no ≤ j := by omega
    have k3 := hs j (by omega)
    obtain ⟨m1, m2⟩ := hno.2.2 j (by omega)
    have k1 : M.1 345 j = (if nK no j = 2 then nI (nA no j) else -1) := m1
    show _ = gX12_hoursOf_129 S zfu 306 (nI (lgS no k (j + 1) (if tlS no j then (if x < nA no j then nA no j else x) else x))) 0 0 (zsI M 306 49 x1)
    rw [tl_m]
    obtain ⟨w1, w2, w3, w4⟩ := wno.2.2 j (by omega)
    cases hsj : skF no j with
    | true =>
      rw [hsj] at k3
      rw [Bool.not_true, Bool.and_false, if_neg Bool.false_ne_true]
      simp (disch := first | omega | simp only [qI2, qL2, qC2, qF2]) only [gX12_hoursOf_75, ↓mH hS, ↓bind_of by1, nI_leI, if_neg hb, ↓mG hS, k3, if_neg bIt, nI_1]
      exact ih fu (j + 1) x (by omega) hx (by omega)
    | false =>
      rw [hsj] at k3
      rw [Bool.not_false, Bool.and_true]
      by_cases q : nK no j = 2
      · rw [if_pos q] at k1
        have z2 : ¬ nI (nA no j) = -1 := nI_m1ne (by have := w2 q; unfold nA; omega)
        rw [decide_eq_true q, Bool.not_true, if_neg Bool.false_ne_true]
        simp (disch := first | omega | simp only [qI2, qL2, qC2, qF2]) only [gX12_hoursOf_75, ↓mH hS, ↓bind_of by1, nI_leI, if_neg hb, ↓mG hS, k3, bIf, if_true, k1, ↓if_neg z2, nI_1]
        exact ih fu (j + 1) x (by omega) hx (by omega)
      · rw [if_neg q] at k1
        have k2 : M.1 342 j = nI (nA no j) := (m2 q).1
        have h60 : nA no j ≤ 60 := (w3 q).2
        rw [decide_eq_false q, Bool.not_false, if_pos rfl]
        have hmax : (if nI x < nI (nA no j) then nI (nA no j) else nI x) = nI (if x < nA no j then nA no j else x) := by
          by_cases q : x < nA no j
          · rw [if_pos q, if_pos (nI_lt q (by omega))]
          · rw [if_neg q, if_neg (nI_nlt (by omega) (by omega))]
        simp (disch := first | omega | simp only [qI2, qL2, qC2, qF2]) only [gX12_hoursOf_75, ↓mH hS, ↓bind_of by1, nI_leI, if_neg hb, ↓mG hS, k3, bIf, if_true, k1, k2, hmax, nI_1]
        exact ih fu (j + 1) _ (by omega) (by split <;> omega) (by omega)
def isP (E : zEn) (no : zNot) (tr h t j : Nat) : Bool := !tlS no j || (!decide (nA no j = t) || ftS E no tr j h)
theorem m_isSo2 {S : List (Nat × Nat)} {M : zM} {no : zNot} {E : zEn} {tr h t : Nat} (hS : pMs S M.2.2) (hno : mNo M.1 no) (wno : noW no) (hs : ∀ i, i < byN no → M.1 346 i = bI (skF no i)) (hl : M.1 330 1 = lbS E tr h t) (ht : t < 100) : ∀ (k fu j : Nat), j + k = byN no → k < fu → gX12_isSo_2 S fu 306 (nI t) (nI j) M = some (bI (allB (isP E no tr h t) k j)) := by
  have h24 := wno.1
  have hle := byN_le wno
  have by1 := m_knownMany hS hno wno
  intro k
  induction k with
  | zero =>
    intro fu j hk hf
    obtain ⟨fu, rfl⟩ : ∃ f, fu = f + 1 := ⟨fu - 1, by omega⟩
    have hb : byN no ≤ j := by omega
    simp (disch := first | omega | simp only [qI2, qL2, qC2, qF2]) only [gX12_isSo_2, ↓mH hS, ↓bind_of by1, nI_leI, if_pos hb]
    rfl
  | succ k ih =>
    intro fu j hk hf
    obtain ⟨fu, rfl⟩ : ∃ f, fu = f + 1 := ⟨fu - 1, by omega⟩
    have hb : ¬ byN no ≤ j := by omega
    have k3 := hs j (by omega)
    obtain ⟨m1, m2⟩ := hno.2.2 j (by omega)
    have k1 : M.1 345 j = (if nK no j = 2 then nI (nA no j) else -1) := m1
    obtain ⟨w1, w2, w3, w4⟩ := wno.2.2 j (by omega)
    show _ = some (bI (isP E no tr h t j && allB (isP E no tr h t) k (j + 1)))
    unfold isP
    rw [tl_m]
    cases hsj : skF no j with
    | true =>
      rw [hsj] at k3
      rw [Bool.not_true, Bool.and_false, Bool.not_false, Bool.true_or, Bool.true_and]
      simp (disch := first | omega | simp only [qI2, qL2, qC2, qF2]) only [gX12_isSo_2, ↓mH hS, ↓bind_of by1, nI_leI, if_neg hb, ↓mG hS, k3, if_neg bIt, nI_1]
      exact ih fu (j + 1) (by omega) (by omega)
    | false =>
      rw [hsj] at k3
      by_cases q : nK no j = 2
      · rw [if_pos q] at k1
        have z2 : ¬ nI (nA no j) = -1 := nI_m1ne (by have := w2 q; unfold nA; omega)
        rw [decide_eq_true q, Bool.not_true, Bool.false_and, Bool.not_false, Bool.true_or, Bool.true_and]
        simp (disch := first | omega | simp only [qI2, qL2, qC2, qF2]) only [gX12_isSo_2, ↓mH hS, ↓bind_of by1, nI_leI, if_neg hb, ↓mG hS, k3, bIf, if_true, k1, ↓if_neg z2, nI_1]
        exact ih fu (j + 1) (by omega) (by omega)
      · rw [if_neg q] at k1
        have k2 : M.1 342 j = nI (nA no j) := (m2 q).1
        have k4 : M.1 343 j = nI (nL no j) := (m2 q).2.1
        have k5 : M.1 344 j = (if nK no j = 0 then 1 else 0) := (m2 q).2.2
        have h60 : nA no j ≤ 60 := (w3 q).2
        rw [decide_eq_false q, Bool.not_false, Bool.and_self, Bool.not_true, Bool.false_or]
        by_cases q1 : nA no j = t
        · have q1' : nI (nA no j) = nI t := by rw [q1]
          rw [decide_eq_true q1, Bool.not_true, Bool.false_or]
          unfold ftS
          rw [q1]
          rw [q1] at k2
          by_cases q2 : lbS E tr h t < nI (nL no j)
          · rw [if_pos q2]
            by_cases q3 : nK no j = 0
            · have z : ¬ (0 : Int32) = 1 := by decide
              rw [if_pos q3] at k5
              rw [decide_eq_true q3, Bool.not_true, Bool.false_and]
              simp (disch := first | omega | simp only [qI2, qL2, qC2, qF2]) only [gX12_isSo_2, ↓mH hS, ↓mL hS, ↓bind_of by1, nI_leI, if_neg hb, ↓mG hS, k3, bIf, if_true, k1, k2, hl, k4, ↓if_pos q2, k5, ↓if_neg z]
            · rw [if_neg q3] at k5
              rw [decide_eq_false q3, Bool.not_false, Bool.true_and]
              simp (disch := first | omega | simp only [qI2, qL2, qC2, qF2]) only [gX12_isSo_2, ↓mH hS, ↓mL hS, ↓bind_of by1, nI_leI, if_neg hb, ↓mG hS, k3, bIf, if_true, k1, k2, hl, k4, ↓if_pos q2, k5, nI_1]
              exact ih fu (j + 1) (by omega) (by omega)
          · rw [if_neg q2]
            by_cases q3 : nK no j = 0
            · rw [if_pos q3] at k5
              rw [decide_eq_true q3, Bool.true_and]
              simp (disch := first | omega | simp only [qI2, qL2, qC2, qF2]) only [gX12_isSo_2, ↓mH hS, ↓mL hS, ↓bind_of by1, nI_leI, if_neg hb, ↓mG hS, k3, bIf, if_true, k1, k2, hl, k4, ↓if_neg q2, k5, nI_1]
              exact ih fu (j + 1) (by omega) (by omega)
            · have z : ¬ (1 : Int32) = 0 := by decide
              rw [if_neg q3] at k5
              rw [decide_eq_false q3, Bool.false_and]
              simp (disch := first | omega | simp only [qI2, qL2, qC2, qF2]) only [gX12_isSo_2, ↓mH hS, ↓mL hS, ↓bind_of by1, nI_leI, if_neg hb, ↓mG hS, k3, bIf, if_true, k1, k2, hl, k4, ↓if_neg q2, k5, ↓if_neg z]
        · have q1' : ¬ nI (nA no j) = nI t := fun e => q1 ((nI_eq (by omega) (by omega)).mp e)
          rw [decide_eq_false q1, Bool.not_false, Bool.true_or, Bool.true_and]
          simp (disch := first | omega | simp only [qI2, qL2, qC2, qF2]) only [gX12_isSo_2, ↓mH hS, ↓bind_of by1, nI_leI, if_neg hb, ↓mG hS, k3, bIf, if_true, k1, k2, ↓if_neg q1', nI_1]
          exact ih fu (j + 1) (by omega) (by omega)
theorem dysS_snoc {E : zEn} {mo : zMo} : ∀ n K, dayS E mo (dysS E mo n K) = dysS E mo (n + 1) K
  | 0, _ => rfl
  | n + 1, K => by
    show dayS E mo (dysS E mo n (dayS E mo K)) = dysS E mo (n + 1) (dayS E mo K)
    exact dysS_snoc n (dayS E mo K)
theorem m_fh7 {S : List (Nat × Nat)} {M0 : zM} {no : zNot} {E : zEn} {tr h e : Nat} (wno : noW no) (hno : mNo M0.1 no) (hs : ∀ i, i < byN no → M0.1 346 i = bI (skF no i)) (he : e ≤ 60) : ∀ (k fu t : Nat) (M : zM), fr (mW 1) M0 M → mOk S M.2.2 M.1 E (moH E tr h) → pMk M.1 1 E (dysS E (moH E tr h) (t - 1) (K0 E)) → wfK E (dysS E (moH E tr h) (t - 1) (K0 E)) t → 1 ≤ t → t + k = e + 1 → k < fu →
    ∃ M', gX12_fitsHour_7 S fu 306 (nI e) (nI t) M = some (bI (allB (fun t => allB (isP E no tr h t) (byN no) 0) k t), M') ∧ fr (mW 1) M0 M' := by
  have h24 := wno.1
  have hle := byN_le wno
  intro k
  induction k with
  | zero =>
    intro fu t M hf0 hm hK wK ht hk hf
    obtain ⟨fu, rfl⟩ : ∃ f, fu = f + 1 := ⟨fu - 1, by omega⟩
    have hb : e < t := by omega
    refine ⟨M, ?_, hf0⟩
    simp (disch := first | omega | simp only [qI2, qL2, qC2, qF2]) only [gX12_fitsHour_7, nI_ltI, ↓if_pos hb]
    rfl
  | succ k ih =>
    intro fu t M hf0 hm hK wK ht hk hf
    obtain ⟨fu, rfl⟩ : ∃ f, fu = f + 1 := ⟨fu - 1, by omega⟩
    have hb : ¬ e < t := by omega
    obtain ⟨M1, a1, a2, a3, a4, a5⟩ := m_day hm (by decide) hK wK (by omega)
    have a1' : gX12_passes S 306 1 0 M = some M1 := a1
    rw [dysS_snoc, show t - 1 + 1 = t by omega] at a2 a3
    have f1 := hf0.trans a4
    have iso := m_isSo2 (S := S) (M := M1) (E := E) (tr := tr) (h := h) (t := t) a5.1 (mNo_cg (fun a b q => f1.2 a b (by unfold mW mS; omega)) hno) wno (fun i hi => by rw [f1.2 346 i (by unfold mW mS; omega)]; exact hs i hi) a2.1.2.2.2.2.2.2.1 (by omega) (byN no) zfu 0 (by omega) (by unfold zfu; omega)
    have iso' : gX12_isSo S 306 (nI t) M1 = some (bI (allB (isP E no tr h t) (byN no) 0)) := iso
    have hS := hm.1
    show ∃ M', _ = some (bI (allB (isP E no tr h t) (byN no) 0 && allB (fun t => allB (isP E no tr h t) (byN no) 0) k (t + 1)), M') ∧ _
    cases hx : allB (isP E no tr h t) (byN no) 0 with
    | false =>
      rw [hx] at iso'
      refine ⟨M1, ?_, f1⟩
      simp (disch := first | omega | simp only [qI2, qL2, qC2, qF2]) only [gX12_fitsHour_7, nI_ltI, if_neg hb, ↓mH hS, ↓bind_of a1', ↓bind_of iso', bIf, if_true, Bool.false_and]
    | true =>
      rw [hx] at iso'
      obtain ⟨M', b1, b2⟩ := ih fu (t + 1) M1 f1 a5 a2 (wfK_to a3 (by rw [kDy_dys]; show 0 + t ≤ t + 1; omega)) (by omega) (by omega) (by omega)
      refine ⟨M', ?_, b2⟩
      simp (disch := first | omega | simp only [qI2, qL2, qC2, qF2]) only [gX12_fitsHour_7, nI_ltI, if_neg hb, ↓mH hS, ↓bind_of a1', ↓bind_of iso', if_neg bIt, nI_1, Bool.true_and]
      exact b1
theorem pMo_H {I : Nat → Nat → Int32} {E : zEn} {tr h : Nat} (hT : eT E ≤ 6) (htr : tr < eT E) (h1 : I 306 47 = 0) (h2 : I 306 49 = nI tr) (h3 : I 306 50 = nI h) : pMo I E (moH E tr h) := by
  refine ⟨fun t ht => ?_, fun t ht => ?_, ?_, ?_⟩
  · rw [h1, h2, h3, if_neg (by decide)]
    show _ = nI (if t = tr then h else eHr E t)
    by_cases q : t = tr
    · rw [if_pos q, if_pos (by rw [q])]
    · rw [if_neg q, if_neg (fun e => q ((nI_eq (by omega) (by omega)).mp e))]
  · rw [h1]
    exact ⟨fun h => absurd h.1 (by decide), fun h => by cases h⟩
  · rw [h1]
    exact ⟨fun h => absurd h (by decide), fun h => by cases h⟩
  · rw [h1, if_neg (by decide), if_neg (by decide)]
    rfl
theorem hr_iso {E : zEn} {no : zNot} {tr h : Nat} (wno : noW no) : allB (fun t => allB (isP E no tr h t) (byN no) 0) (lgF no) 1 = hrP E no tr h := by
  have hle := byN_le wno
  rw [Bool.eq_iff_iff]
  unfold hrP
  rw [allB_iff, allB_iff]
  constructor
  · intro a j h1 h2
    cases ht : tlS no j with
    | false => rfl
    | true =>
      have h3 : nK no j ≠ 2 := by
        intro q
        unfold tlS at ht
        rw [if_pos q] at ht
        cases ht
      have w3 : 1 ≤ nA no j ∧ nA no j ≤ 60 := (wno.2.2 j (by omega)).2.2.1 h3
      have lge : nA no j ≤ lgF no := (lgS_ge no (byN no) 0 0).2 j (Nat.zero_le _) (by omega) ht
      have b := (allB_iff _ _).mp (a (nA no j) w3.1 (by omega)) j h1 h2
      unfold isP at b
      rw [ht, decide_eq_true (p := nA no j = nA no j) rfl] at b
      exact b
  · intro a t h1 h2
    rw [allB_iff]
    intro j h3 h4
    have b := a j h3 h4
    unfold isP
    cases ht : tlS no j with
    | false => rfl
    | true =>
      rw [ht] at b
      have b' : ftS E no tr j h = true := b
      rw [b', Bool.or_true, Bool.or_true]
theorem m_ho129 {S : List (Nat × Nat)} {M0 : zM} {no : zNot} {E : zEn} {tr : Nat} (hS : pMs S M0.2.2) (hE : pME M0.1 E) (wE : wfE E) (wno : noW no) (hno : mNo M0.1 no) (hs : ∀ i, i < byN no → M0.1 346 i = bI (skF no i)) (htr : tr < eT E) (h47 : M0.1 306 47 = 0) (h49 : M0.1 306 49 = nI tr) : ∀ (k fu h : Nat) (M : zM), fr (fun a b => mW 1 a b ∨ (a = 306 ∧ b = 50)) M0 M → h + k = 24 → k < fu →
    ∃ M', gX12_hoursOf_129 S fu 306 (nI (lgF no)) (nI (bs (hrP E no tr) h)) (nI h) M = some (nI (hrS E no tr), zsI M' 306 49 (-1)) ∧ fr (fun a b => mW 1 a b ∨ (a = 306 ∧ b = 50)) M0 M' := by
  have hT6 := wE.1
  have hP12 := wE.2.1
  have h24 := wno.1
  have hle := byN_le wno
  have l60 : lgF no ≤ 60 := lgS_60 wno _ _ _ (by omega) (by omega)
  intro k
  induction k with
  | zero =>
    intro fu h M hf0 hk hf
    obtain ⟨fu, rfl⟩ : ∃ f, fu = f + 1 := ⟨fu - 1, by omega⟩
    have hb : 24 ≤ h := by omega
    have e : h = 24 := by omega
    have hSM : pMs S M.2.2 := hf0.1 ▸ hS
    refine ⟨M, ?_, hf0⟩
    subst e
    simp (disch := first | omega | simp only [qI2, qL2, qC2, qF2]) only [gX12_hoursOf_129, li24, nI_leI, ↓if_pos hb, ↓mH hSM]
    rfl
  | succ k ih =>
    intro fu h M hf0 hk hf
    obtain ⟨fu, rfl⟩ : ∃ f, fu = f + 1 := ⟨fu - 1, by omega⟩
    have hb : ¬ 24 ≤ h := by omega
    have hSM : pMs S M.2.2 := hf0.1 ▸ hS
    have o2 : ∀ a b, ¬ mW 1 a b → ¬ (a = 306 ∧ b = 50) → (zsI M 306 50 (nI h)).1 a b = M0.1 a b := fun a b q1 q2 => by rw [zsI_ne (by omega)]; exact hf0.2 a b (fun q => q.elim q1 q2)
    have E2 : pME (zsI M 306 50 (nI h)).1 E := pME_cg (fun a b k1 k2 => o2 a b (by unfold mW mS; omega) (by omega)) hE
    obtain ⟨M3, s1, s2, s3⟩ := m_starts (M := zsI M 306 50 (nI h)) (s := 1) hSM (by decide) wE E2
    have s1' : gX12_starts S 306 1 (zsI M 306 50 (nI h)) = some M3 := s1
    have mo3 : pMo M3.1 E (moH E tr h) := pMo_H hT6 htr (by rw [s3.2 306 47 (by unfold mS; omega), o2 306 47 (by unfold mW mS; omega) (by omega)]; exact h47) (by rw [s3.2 306 49 (by unfold mS; omega), o2 306 49 (by unfold mW mS; omega) (by omega)]; exact h49) (by rw [s3.2 306 50 (by unfold mS; omega), zsI_at])
    have k3 : mOk S M3.2.2 M3.1 E (moH E tr h) := ⟨s3.1 ▸ hSM, pME_cg (fun a b k1 k2 => s3.2 a b (by unfold mS; omega)) E2, mo3, wE, moH_ok wE (by omega)⟩
    have n3 : mNo M3.1 no := mNo_cg (fun a b q => by rw [s3.2 a b (by unfold mS; omega), o2 a b (by unfold mW mS; omega) (by omega)]) hno
    obtain ⟨M4, f1, f2⟩ := m_fh7 (S := S) (M0 := M3) (E := E) (tr := tr) (h := h) (e := lgF no) wno n3 (fun i hi => by rw [s3.2 346 i (by unfold mS; omega), o2 346 i (by unfold mW mS; omega) (by omega)]; exact hs i hi) l60 (lgF no) zfu 1 M3 fr.refl k3 s2 (wfK_to (wfK_K0 wE) (by show 0 ≤ 1; omega)) (Nat.le_refl _) (by omega) (by unfold zfu; omega)
    have f1' : gX12_fitsHour_7 S zfu 306 (nI (lgF no)) 1 M3 = some (bI (allB (fun t => allB (isP E no tr h t) (byN no) 0) (lgF no) 1), M4) := f1
    rw [hr_iso wno] at f1'
    have hS3 := k3.1
    have hSZ : pMs S (zsI M 306 50 (nI h)).2.2 := hSM
    have fh : gX12_fitsHour S 306 (nI (lgF no)) (zsI M 306 50 (nI h)) = some (bI (hrP E no tr h), M4) := by
      simp (disch := first | omega | simp only [qI2, qL2, qC2, qF2]) only [gX12_fitsHour, ↓mH hSM, ↓bind_of s1', f1']
    have ff : fr (fun a b => mW 1 a b ∨ (a = 306 ∧ b = 50)) M0 M4 := ((hf0.sI (k := 306) (j := 50) (x := nI h) (Or.inr ⟨rfl, rfl⟩)).trans (s3.mono (fun a b q => Or.inl (Or.inr q)))).trans (f2.mono (fun a b q => Or.inl q))
    obtain ⟨M', b1, b2⟩ := ih fu (h + 1) M4 ff (by omega) (by omega)
    refine ⟨M', ?_, b2⟩
    have hS4 : pMs S M4.2.2 := ff.1 ▸ hS
    cases hp : hrP E no tr h with
    | false =>
      rw [hp] at fh
      simp (disch := first | omega | simp only [qI2, qL2, qC2, qF2]) only [gX12_hoursOf_129, li24, nI_leI, if_neg hb, ↓mH hSM, ↓zb2_of fh, bIf, if_true, or24N hp, nI_1]
      exact b1
    | true =>
      rw [hp] at fh
      simp (disch := first | omega | simp only [qI2, qL2, qC2, qF2]) only [gX12_hoursOf_129, li24, nI_leI, if_neg hb, ↓mH hSM, ↓zb2_of fh, if_neg bIt, or24 (show h < 24 by omega) hp, nI_1]
      exact b1
theorem m_hoursOf {S : List (Nat × Nat)} {M : zM} {no : zNot} {E : zEn} {tr : Nat} (hS : pMs S M.2.2) (hE : pME M.1 E) (wE : wfE E) (wno : noW no) (hno : mNo M.1 no) (mmd : mMd M.1) (htr : tr < eT E) :
    ∃ M', gX12_hoursOf S 306 (nI tr) M = some (nI (hrS E no tr), M') ∧ fr mQ M M' := by
  have h24 := wno.1
  have hle := byN_le wno
  obtain ⟨M1, a1, a2, a3, a4⟩ := m_ho4 (I := M.1) (x1 := nI tr) hS hno wno (byN no) zfu 0 M rfl (fun _ _ _ => rfl) (by omega) (by unfold zfu; omega) (fun i hi => by omega)
  have hS1 : pMs S M1.2.2 := a2 ▸ hS
  have n1 : mNo M1.1 no := mNo_cg (fun a b q => a3 a b (by omega)) hno
  have b1 := m_ho75 (S := S) (M := M1) (x1 := nI tr) hS1 n1 wno a4 (byN no) zfu 0 0 (by omega) (by omega) (by unfold zfu; omega)
  obtain ⟨M', c1, c2⟩ := m_ho129 (S := S) (M0 := zsI M1 306 49 (nI tr)) (E := E) (tr := tr) hS1 (pME_cg (fun a b k1 k2 => by rw [zsI_ne (by omega), a3 a b (by omega)]) hE) wE wno (mNo_cg (fun a b q => zsI_ne (by omega)) n1) (fun i hi => (zsI_ne (by omega)).trans (a4 i hi)) htr (by rw [zsI_ne (by omega), a3 306 47 (by decide)]; exact mmd.1) (zsI_at _ _ _ _) 24 zfu 0 (zsI M1 306 49 (nI tr)) fr.refl (by omega) (by unfold zfu; omega)
  refine ⟨zsI M' 306 49 (-1), a1.trans (b1.trans c1), c2.1.trans a2, fun a b q => ?_⟩
  by_cases q9 : a = 306 ∧ b = 49
  · obtain ⟨rfl, rfl⟩ := q9
    rw [zsI_at]
    exact mmd.2.2.symm
  · rw [zsI_ne (by omega), c2.2 a b (fun k => by
      rcases k with k | k
      · exact q (mW_Q k)
      · exact q (by unfold mQ; omega)), zsI_ne (by omega), a3 a b (by unfold mQ at q; omega)]
theorem P_hours : zP_hours zInv := by
  intro S M hM a1
  refine zq (f := gX11_hours S 0 a1) (g := gX12_hours S 306 a1) ?_ M hM
  intro A M hw hc
  obtain ⟨t, E, K, le, im, st, no, tp, fl⟩ := A
  have hc2 : cIx S M t E K le im st no tp fl := hc
  have hw2 : aWx E K im st no tp fl := hw
  obtain ⟨⟨hS, hR, ht, h03, h04⟩, hV, hK, him, hst, hno, htp, hfl⟩ := hc2
  obtain ⟨wE, wK, wim, wst, wno, wtp, wfl⟩ := hw2
  have hT6 := wE.1
  have hP12 := wE.2.1
  have hW5 := wE.2.2.2.1
  have T0 := pTs_of hS hR t (Or.inr ht)
  have N0 := pSs_of hS hR 107 (by decide)
  have gT : ∀ (ρ : Type) (M' : zM) (f : Nat → Option ρ), M'.2.2 = M.2.2 → zgR S M' 0 11 14 3 f = f t := fun ρ M' f h => zgR_of ((hS 0 (by decide)).trans rfl) h03 M' f h
  have D := cD hS hR
  have hrc : ∀ (ρ : Type) (o : Option ρ), zrc S t 10 18 o = o := fun ρ o => zrc_ok T0.1
  have hp := e_hasTrade (M := M) (x := a1) T0.1 hV.1.1
  have mp : ∀ M' : zM, mIx S M' E K im st no tp fl → gX12_isTrade S 306 a1 (zsI M' 306 0 0) = some (bI (inR (eT E) a1)) := fun M' hm => e_isTrade (M := zsI M' 306 0 0) hm.1 ((zsI_ne (by omega)).trans hm.2.1.1.1)
  cases h : inR (eT E) a1 with
  | false =>
    rw [h] at hp mp
    refine ⟨-1, M, ?_, cFr.refl' hR, ?_⟩
    · simp (disch := first | omega | simp only [qI2, qL2, qC2, qF2]) only [gX11_hours, ↓gT, ↓hrc, ↓bind_of hp, bIf, if_true]
    · skip
      intro M' hm
      have hm2 : mIx S M' E K im st no tp fl := hm
      obtain ⟨mS', mE, mK, mim, mst, mno, mtp, mfl, mmd⟩ := id hm2
      refine ⟨_, ?_, th0 M' 0⟩
      simp (disch := first | omega | simp only [qI2, qL2, qC2, qF2]) only [gX12_hours, ↓mH mS', ↓bind_of (mp M' hm2), bIf, if_true]
  | true =>
    rw [h] at hp mp
    obtain ⟨j, hj, rfl⟩ := inR_ex (by omega) h
    obtain ⟨M3, e1, e2, e3, e4, e5⟩ := c_watch (least := 0) hS hR ht h03 hV wE hno wno hj (by omega)
    have e1' : gX11_watchHours S 0 (nI j) 0 M = some M3 := e1
    have R3 : pRf M3.2.2 := by rw [e2]; exact pRf_u2 hR (by decide +kernel)
    have D3 := cD hS R3
    have no3 : cNo M3.1 no := ⟨(e3 169 6 (by decide)).trans hno.1, (e3 169 7 (by decide)).trans hno.2.1, fun j hj => ⟨(e3 171 j (by omega)).trans (hno.2.2 j hj).1, (e3 173 j (by omega)).trans (hno.2.2 j hj).2.1, (e3 175 j (by omega)).trans (hno.2.2 j hj).2.2⟩⟩
    have ft := c_fitting (E := E) (tr := j) hS R3 no3 wno e4 (fun g e h1 h2 h3 => e5 g e h1 h2 (Or.inr h3))
    refine ⟨nI (hrS E no j), M3, ?_, cFr_of hR e2 (fun a b q => e3 a b (by unfold cQ at q; omega)), ?_⟩
    · simp (disch := first | omega | simp only [qI2, qL2, qC2, qF2]) only [gX11_hours, ↓gT, ↓hrc, ↓bind_of hp, if_neg bIt, ↓D, ↓bind_of e1', ↓D3, ↓bind_of ft]
    · skip
      intro M' hm
      have hm2 : mIx S M' E K im st no tp fl := hm
      obtain ⟨mS', mE, mK, mim, mst, mno, mtp, mfl, mmd⟩ := id hm2
      obtain ⟨M4, g1, g2⟩ := m_hoursOf (M := zsI M' 306 0 0) (E := E) (tr := j) (no := no) mS' (pME_cg (fun a b k1 k2 => zsI_ne (by omega)) mE) wE wno (mNo_cg (fun a b q => zsI_ne (by omega)) mno) ⟨(zsI_ne (by omega)).trans mmd.1, (zsI_ne (by omega)).trans mmd.2.1, (zsI_ne (by omega)).trans mmd.2.2⟩ hj
      refine ⟨M4, ?_, (th0 M' 0).trans g2⟩
      simp (disch := first | omega | simp only [qI2, qL2, qC2, qF2]) only [gX12_hours, ↓mH mS', ↓bind_of (mp M' hm2), if_neg bIt, ↓zb2_of g1]
