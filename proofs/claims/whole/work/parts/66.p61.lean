/-! pure part 61: the tokens; the class's words, signs, next -/
theorem c_w163 {S : List (Nat × Nat)} {M : zM} {w : Nat} (hS : zShp S) (hR : pRf M.2.2) (hw : w < 20) (h5 : M.1 4 5 = 3) (h6 : M.1 4 6 = nI w) : gX9_nextWord_163 S 4 M = some (if 10 ≤ w ∧ w ≤ 12 then zsI (zsI M 4 5 8) 4 6 (nI (w - 7)) else M) := by
  have P := cP hS hR
  by_cases a : w < 10
  · rw [if_neg (by omega)]
    simp (disch := first | omega | simp only [qI2, qL2, qC2, qF2]) only [gX9_nextWord_163, ↓P, h5, h6, if_true, li10, nI_ltI, ↓if_pos a]
  · by_cases b : 12 < w
    · rw [if_neg (by omega)]
      simp (disch := first | omega | simp only [qI2, qL2, qC2, qF2]) only [gX9_nextWord_163, ↓P, h5, h6, if_true, li10, li12, nI_ltI, if_neg a, ↓if_pos b]
    · have e : (nI 3 + nI w) - nI 10 = nI (w - 7) := by
        rw [nI_add, pk_sub (by omega)]
        congr 1
        omega
      rw [if_pos (by omega)]
      simp (disch := first | omega | simp only [qI2, qL2, qC2, qF2]) only [gX9_nextWord_163, ↓P, h5, h6, if_true, li10, li12, li3, nI_ltI, if_neg a, if_neg b, zsI_ne, e]
theorem c_w121 {S : List (Nat × Nat)} {M : zM} {v : Nat} (hS : zShp S) (hR : pRf M.2.2) (hW : cWd M.1) (hv : v < 2 ^ 30) (h5 : M.1 4 5 = 2) : ∀ (k fu j : Nat), j + k = 20 → k + 1 < fu →
    gX9_nextWord_121 S fu 4 (nI v) (nI j) M = match wix k j v with | none => some M | some w => some (if 10 ≤ w ∧ w ≤ 12 then zsI (zsI (zsI (zsI M 4 5 3) 4 6 (nI w)) 4 5 8) 4 6 (nI (w - 7)) else zsI (zsI M 4 5 3) 4 6 (nI w)) := by
  have P := cP hS hR
  have n23 : ¬ (2 : Int32) = 3 := by decide
  have n32 : ¬ (3 : Int32) = 2 := by decide
  have wlt : ∀ j, j < 20 → wdC j < 2 ^ 30 := by decide +kernel
  intro k
  induction k with
  | zero =>
    intro fu j hk hf
    obtain ⟨fu, rfl⟩ : ∃ f, fu = f + 1 := ⟨fu - 1, by omega⟩
    have hc : 20 ≤ j := by omega
    have li20' : (20 : Int32) = nI 20 := rfl
    simp (disch := first | omega | simp only [qI2, qL2, qC2, qF2]) only [gX9_nextWord_121, li20', nI_leI, ↓if_pos hc, gX9_nextWord_163, ↓P, h5, if_neg n23]
    rfl
  | succ k ih =>
    intro fu j hk hf
    obtain ⟨fu, rfl⟩ : ∃ f, fu = f + 2 := ⟨fu - 2, by omega⟩
    have hc : ¬ 20 ≤ j := by omega
    have li20' : (20 : Int32) = nI 20 := rfl
    have gw := hW j (by omega)
    have w30 := wlt j (by omega)
    by_cases e : wdC j = v
    · have un : wix (k + 1) j v = some j := by unfold wix; rw [if_pos e]
      rw [un]
      have s63 := c_w163 (S := S) (M := zsI (zsI M 4 5 3) 4 6 (nI j)) (w := j) hS hR (by omega) (by rw [zsI_ne (by omega), zsI_at]) (zsI_at _ _ _ _)
      have e' : nI (wdC j) = nI v := by rw [e]
      have step : gX9_nextWord_121 S (fu + 1) 4 (nI v) (nI (j + 1)) (zsI (zsI M 4 5 3) 4 6 (nI j)) = gX9_nextWord_163 S 4 (zsI (zsI M 4 5 3) 4 6 (nI j)) := by
        by_cases h2 : 20 ≤ j + 1
        · simp (disch := first | omega | simp only [qI2, qL2, qC2, qF2]) only [gX9_nextWord_121, li20', nI_leI, ↓if_pos h2]
        · simp (disch := first | omega | simp only [qI2, qL2, qC2, qF2]) only [gX9_nextWord_121, li20', nI_leI, if_neg h2, ↓P, zsI_ne, zsI_at, if_neg n32]
      have u1 : gX9_nextWord_121 S (fu + 2) 4 (nI v) (nI j) M = gX9_nextWord_121 S (fu + 1) 4 (nI v) (nI j + 1) (zsI (zsI M 4 5 3) 4 6 (nI j)) := by
        generalize hq : fu + 1 = q
        rw [show fu + 2 = q + 1 by omega]
        simp (disch := first | omega | simp only [qI2, qL2, qC2, qF2]) only [gX9_nextWord_121, li20', nI_leI, if_neg hc, ↓P, h5, if_true, gw, e']
      rw [u1, nI_1, step, s63]
    · have un : wix (k + 1) j v = wix k (j + 1) v := by
        show (if wdC j = v then some j else wix k (j + 1) v) = _
        rw [if_neg e]
      rw [un, ← ih (fu + 1) (j + 1) (by omega) (by omega)]
      have e' : ¬ nI (wdC j) = nI v := fun h => e ((nI_eq (by omega) (by omega)).1 h)
      have u1 : gX9_nextWord_121 S (fu + 2) 4 (nI v) (nI j) M = gX9_nextWord_121 S (fu + 1) 4 (nI v) (nI j + 1) M := by
        generalize hq : fu + 1 = q
        rw [show fu + 2 = q + 1 by omega]
        simp (disch := first | omega | simp only [qI2, qL2, qC2, qF2]) only [gX9_nextWord_121, li20', nI_leI, if_neg hc, ↓P, h5, if_true, gw, if_neg e']
      rw [u1, nI_1]
theorem c_w91 {S : List (Nat × Nat)} {M : zM} {T : Nat → Nat} {p e : Nat} (hS : zShp S) (hR : pRf M.2.2) (hW : cWd M.1) (h : p ≤ e) (he : e ≤ 700) (h3 : M.1 4 3 = nI e) (h4 : M.1 4 4 = nI p) (hl : ∀ j, p ≤ j → j < e → T j ≤ 122) :
    ∃ M', gX9_nextWord_91 S 4 (nI (cdS T p (min (e - p) 6))) M = some M' ∧ M'.2.2 = M.2.2 ∧ (∀ a b, ¬ (a = 4 ∧ (b = 5 ∨ b = 6)) → M'.1 a b = M.1 a b) ∧ cTk M'.1 (wdT (e - p) (cdS T p (e - p)) p e) := by
  have P := cP hS hR
  have sb : nI e - nI p = nI (e - p) := pk_sub h
  have n12 : ¬ (1 : Int32) = 2 := by decide
  have n13 : ¬ (1 : Int32) = 3 := by decide
  obtain ⟨z, hz⟩ : ∃ z, zfu = z + 1 := ⟨zfu - 1, by unfold zfu; omega⟩
  have li20' : (20 : Int32) = nI 20 := rfl
  have c20 : ¬ 20 ≤ 0 := by omega
  by_cases g : e - p ≤ 6
  · rw [Nat.min_eq_left g]
    have hv := cdS_lt (T := T) (p := p) g (fun j hj => hl (p + j) (by omega) (by omega))
    have r := c_w121 (S := S) (M := zsI (zsI M 4 5 2) 4 6 (nI (cdS T p (e - p)))) (v := cdS T p (e - p)) hS hR (fun j hj => by rw [zsI_ne (by omega), zsI_ne (by omega)]; exact hW j hj) hv (by rw [zsI_ne (by omega), zsI_at]) 20 zfu 0 (by omega) (by unfold zfu; omega)
    have r' : gX9_nextWord_121 S zfu 4 (nI (cdS T p (e - p))) 0 (zsI (zsI M 4 5 2) 4 6 (nI (cdS T p (e - p)))) = _ := r
    have st : gX9_nextWord_91 S 4 (nI (cdS T p (e - p))) M = gX9_nextWord_121 S zfu 4 (nI (cdS T p (e - p))) 0 (zsI (zsI M 4 5 2) 4 6 (nI (cdS T p (e - p)))) := by
      simp (disch := first | omega | simp only [qI2, qL2, qC2, qF2]) only [gX9_nextWord_91, ↓P, h3, h4, sb, li6, nI_leI, if_pos g]
    rw [st, r']
    cases o : wix 20 0 (cdS T p (e - p)) with
    | none =>
      have wt : wdT (e - p) (cdS T p (e - p)) p e = (2, cdS T p (e - p), p, e) := by
        unfold wdT
        rw [if_neg (by omega), o]
      rw [wt]
      refine ⟨_, rfl, rfl, fun a b q => by rw [zsI_ne (by omega), zsI_ne (by omega)], ?_, ?_, ?_, fun _ => zsI_at _ _ _ _⟩
      · rw [zsI_ne (by omega), zsI_ne (by omega)]; exact h3
      · rw [zsI_ne (by omega), zsI_ne (by omega)]; exact h4
      · rw [zsI_ne (by omega), zsI_at]; rfl
    | some w =>
      have hw := wix_lt o
      by_cases b : 10 ≤ w ∧ w ≤ 12
      · have wt : wdT (e - p) (cdS T p (e - p)) p e = (8, w - 7, p, e) := by
          unfold wdT
          rw [if_neg (by omega), o]
          exact if_pos b
        rw [wt]
        dsimp only
        rw [if_pos b]
        refine ⟨_, rfl, rfl, fun a b q => by rw [zsI_ne (by omega), zsI_ne (by omega), zsI_ne (by omega), zsI_ne (by omega), zsI_ne (by omega), zsI_ne (by omega)], ?_, ?_, ?_, fun _ => zsI_at _ _ _ _⟩
        · rw [zsI_ne (by omega), zsI_ne (by omega), zsI_ne (by omega), zsI_ne (by omega), zsI_ne (by omega), zsI_ne (by omega)]; exact h3
        · rw [zsI_ne (by omega), zsI_ne (by omega), zsI_ne (by omega), zsI_ne (by omega), zsI_ne (by omega), zsI_ne (by omega)]; exact h4
        · rw [zsI_ne (by omega), zsI_at]; rfl
      · have wt : wdT (e - p) (cdS T p (e - p)) p e = (3, w, p, e) := by
          unfold wdT
          rw [if_neg (by omega), o]
          exact if_neg b
        rw [wt]
        dsimp only
        rw [if_neg b]
        refine ⟨_, rfl, rfl, fun a b q => by rw [zsI_ne (by omega), zsI_ne (by omega), zsI_ne (by omega), zsI_ne (by omega)], ?_, ?_, ?_, fun _ => zsI_at _ _ _ _⟩
        · rw [zsI_ne (by omega), zsI_ne (by omega), zsI_ne (by omega), zsI_ne (by omega)]; exact h3
        · rw [zsI_ne (by omega), zsI_ne (by omega), zsI_ne (by omega), zsI_ne (by omega)]; exact h4
        · rw [zsI_ne (by omega), zsI_at]; rfl
  · have wt : wdT (e - p) (cdS T p (e - p)) p e = (1, 0, p, e) := by
      unfold wdT
      rw [if_pos (by omega)]
    rw [wt]
    refine ⟨zsI (zsI M 4 5 1) 4 6 (nI (cdS T p (min (e - p) 6))), ?_, rfl, fun a b q => by rw [zsI_ne (by omega), zsI_ne (by omega)], ?_, ?_, ?_, fun q => ?_⟩
    · simp (disch := first | omega | simp only [qI2, qL2, qC2, qF2]) only [gX9_nextWord_91, ↓P, h3, h4, sb, li6, nI_leI, if_neg g, hz, gX9_nextWord_121, li20', zsI_ne, zsI_at, if_neg n12, gX9_nextWord_163, if_neg n13]
      have c20' : ¬ (nI 20 ≤ (0 : Int32)) := by decide
      simp only [if_neg c20']
    · rw [zsI_ne (by omega), zsI_ne (by omega)]; exact h3
    · rw [zsI_ne (by omega), zsI_ne (by omega)]; exact h4
    · rw [zsI_ne (by omega), zsI_at]; rfl
    · rcases q with q | q | q | q <;> cases q
theorem c_w2 {S : List (Nat × Nat)} {R : Nat → Nat → Option Nat} {I : Nat → Nat → Int32} {T : Nat → Nat} {n p : Nat} (hx : cTx S R I T n) : ∀ (k fu i : Nat) (M : zM), i + k = n → k < fu → p ≤ i → (∀ j, p ≤ j → j < i → T j ≤ 122) → M.2.2 = R → (∀ a b, ¬ (a = 4 ∧ b = 3) → M.1 a b = I a b) → M.1 4 3 = nI i → I 4 4 = nI p →
    ∃ M', gX9_nextWord_2 S fu 4 (nI (cdS T p (min (i - p) 6))) M = some M' ∧ M'.2.2 = R ∧ (∀ a b, ¬ q43 a b → M'.1 a b = I a b) ∧ cTk M'.1 (wdT (endR isLt T n i - p) (cdS T p (endR isLt T n i - p)) p (endR isLt T n i)) := by
  obtain ⟨⟨hS, hR, h41⟩, hn, hn7, hT, hW⟩ := hx
  have P := cP hS hR
  have gB : ∀ (ρ : Type) (M' : zM) (f : Nat → Option ρ), M'.2.2 = R → zgR S M' 4 9 7 1 f = f 1 := fun ρ M' f h => zgR_of ((hS 4 (by decide)).trans rfl) h41 M' f h
  intro k
  induction k with
  | zero =>
    intro fu i M hk hfu hpi hl hMR hI h3 h4
    obtain ⟨fu, rfl⟩ : ∃ f, fu = f + 1 := ⟨fu - 1, by omega⟩
    have hc : n ≤ i := by omega
    have g2 : M.1 4 2 = nI n := (hI 4 2 (by omega)).trans hn
    rw [endR_e (fun h => by omega)]
    obtain ⟨M', e1, e2, e3, e4⟩ := c_w91 (S := S) (M := M) (T := T) (p := p) (e := i) hS (hMR ▸ hR) (fun j hj => by rw [hI 6 j (by omega)]; exact hW j hj) hpi (by omega) h3 ((hI 4 4 (by omega)).trans h4) hl
    refine ⟨M', ?_, e2.trans hMR, fun a b q => ?_, e4⟩
    · rw [← e1]
      simp (disch := first | omega | simp only [qI2, hMR]) only [gX9_nextWord_2, ↓P, h3, g2, nI_leI, ↓if_pos hc]
    · unfold q43 at q
      rw [e3 a b (by omega)]
      exact hI a b (by omega)
  | succ k ih =>
    intro fu i M hk hfu hpi hl hMR hI h3 h4
    obtain ⟨fu, rfl⟩ : ∃ f, fu = f + 1 := ⟨fu - 1, by omega⟩
    have hc : ¬ n ≤ i := by omega
    have g2 : M.1 4 2 = nI n := (hI 4 2 (by omega)).trans hn
    have g4 : M.1 4 4 = nI p := (hI 4 4 (by omega)).trans h4
    have gt : M.1 2 i = nI (T i) := (hI 2 i (by omega)).trans (hT i (by omega)).1
    have ib := e_isLt (S := S) (M := M) (hT i (by omega)).2
    cases q : isLt (T i) with
    | false =>
      rw [q] at ib
      rw [endR_e (fun _ => q)]
      obtain ⟨M', e1, e2, e3, e4⟩ := c_w91 (S := S) (M := M) (T := T) (p := p) (e := i) hS (hMR ▸ hR) (fun j hj => by rw [hI 6 j (by omega)]; exact hW j hj) hpi (by omega) h3 g4 hl
      refine ⟨M', ?_, e2.trans hMR, fun a b q => ?_, e4⟩
      · rw [← e1]
        simp (disch := first | omega | simp only [qI2, hMR]) only [gX9_nextWord_2, ↓P, h3, g2, nI_leI, if_neg hc, ↓gB, gt, ↓bind_of ib, bIf, if_true]
      · unfold q43 at q
        rw [e3 a b (by omega)]
        exact hI a b (by omega)
    | true =>
      rw [q] at ib
      have lt : 97 ≤ T i ∧ T i ≤ 122 := of_decide_eq_true q
      rw [endR_s (by omega) q]
      have sb : nI i - nI p = nI (i - p) := pk_sub hpi
      obtain ⟨M', e1, e2, e3, e4⟩ := ih fu (i + 1) (zsI M 4 3 (nI (i + 1))) (by omega) (by omega) (by omega) (fun j h1 h2 => by
        by_cases e : j = i
        · rw [e]; exact lt.2
        · exact hl j h1 (by omega)) hMR (fun a b q => by rw [zsI_ne (by omega)]; exact hI a b q) (zsI_at _ _ _ _) h4
      refine ⟨M', ?_, e2, e3, e4⟩
      rw [← e1]
      by_cases g : 6 ≤ i - p
      · rw [Nat.min_eq_right g, Nat.min_eq_right (show 6 ≤ i + 1 - p by omega)]
        simp (disch := first | omega | simp only [qI2, hMR]) only [gX9_nextWord_2, ↓P, h3, g2, g4, nI_leI, if_neg hc, ↓gB, gt, ↓bind_of ib, if_neg bIt, sb, li6, if_pos g, nI_1]
      · rw [Nat.min_eq_left (show i - p ≤ 6 by omega), Nat.min_eq_left (show i + 1 - p ≤ 6 by omega)]
        have st : nI (cdS T p (i - p)) ||| (((nI (T i) - 97) + 1) <<< ((25 - 5 * nI (i - p)) &&& 31)) = nI (cdS T p (i + 1 - p)) := by
          have := cd_step (v := vS T p (i - p)) (c := T i) (L := i - p) (by omega) lt.1 lt.2
          unfold cdS
          rw [this, show i + 1 - p = (i - p) + 1 by omega]
          show _ = nI ((vS T p (i - p) * 32 + (T (p + (i - p)) - 96)) * _)
          rw [show p + (i - p) = i by omega]
        simp (disch := first | omega | simp only [qI2, hMR]) only [gX9_nextWord_2, ↓P, h3, g2, g4, nI_leI, if_neg hc, ↓gB, gt, ↓bind_of ib, if_neg bIt, sb, li6, if_neg g]
        rw [← st, nI_1]
