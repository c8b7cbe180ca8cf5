/-! pure part 51: fair, the class's ring and rounds -/
def q87 (a : Nat) : Prop := a = 187 ∨ a = 189
theorem c_ring5 {S : List (Nat × Nat)} {M : zM} {w : Nat → Nat} {P : Nat} (hS : zShp S) (hR : pRf M.2.2) (hP12 : P ≤ 12) (hP : M.1 107 10 = nI P) (hw : ∀ h, h < P → M.1 189 h = nI (w h) ∧ w h < P) : ∀ (k fu j x : Nat), j + k = P → k < fu → x < P →
    gX6_closeRing_5 S fu 185 107 (nI x) (nI j) M = gX6_closeRing_32 S zfu 185 107 (nI (itr w k x)) 0 M := by
  have D := cD hS hR
  have N := cN hS hR
  have EE := cE hS hR
  intro k
  induction k with
  | zero =>
    intro fu j x hk hf hx
    obtain ⟨fu, rfl⟩ : ∃ f, fu = f + 1 := ⟨fu - 1, by omega⟩
    have hc : P ≤ j := by omega
    simp (disch := first | omega | simp only [qI2, qL2, qC2, qF2]) only [gX6_closeRing_5, ↓N, hP, nI_leI, ↓if_pos hc]
    rfl
  | succ k ih =>
    intro fu j x hk hf hx
    obtain ⟨fu, rfl⟩ : ∃ f, fu = f + 1 := ⟨fu - 1, by omega⟩
    have hc : ¬ P ≤ j := by omega
    have g := hw x hx
    have g1 := g.1
    simp (disch := first | omega | simp only [qI2, qL2, qC2, qF2]) only [gX6_closeRing_5, ↓N, hP, nI_leI, if_neg hc, ↓D, ↓EE, g1, nI_1]
    exact ih fu (j + 1) (w x) (by omega) (by omega) g.2
def rgI (w ls : Nat → Nat) (c j : Nat) (G G' : zGe) : Prop := (∀ i, i < j → G' (itr w (i + 1) c) = some (ls (itr w i c))) ∧ ∀ y, (∀ i, i < j → y ≠ itr w (i + 1) c) → G' y = G y
theorem rgI_0 {w ls : Nat → Nat} {c : Nat} {G : zGe} : rgI w ls c 0 G G := ⟨fun i h => by omega, fun _ _ => rfl⟩
theorem rgI_s {w ls : Nat → Nat} {c j : Nat} {G G' : zGe} (h : rgI w ls c j G G') (e : ∀ i, i < j → itr w (i + 1) c = itr w (j + 1) c → itr w i c = itr w j c) : rgI w ls c (j + 1) G (fun y => if y = itr w (j + 1) c then some (ls (itr w j c)) else G' y) := by
  refine ⟨fun i hi => ?_, fun y hy => ?_⟩
  · dsimp only
    by_cases q : itr w (i + 1) c = itr w (j + 1) c
    · rw [if_pos q]
      by_cases q2 : i = j
      · rw [q2]
      · rw [e i (by omega) q]
    · rw [if_neg q]
      have : i ≠ j := fun h => q (by rw [h])
      exact h.1 i (by omega)
  · dsimp only
    rw [if_neg (hy j (by omega))]
    exact h.2 y (fun i hi => hy i (by omega))
theorem zOr {α : Type} {p : α → Prop} : (∃ a, p a) ∨ ∀ a, ¬ p a := by
  by_cases h : ∃ a, p a
  · exact Or.inl h
  · exact Or.inr (fun a q => h ⟨a, q⟩)
theorem c_ring32 {S : List (Nat × Nat)} {R : Nat → Nat → Option Nat} {I : Nat → Nat → Int32} {w ls : Nat → Nat} {P c L : Nat} {G : zGe} (hS : zShp S) (hR : pRf R) (hP12 : P ≤ 12) (hP : I 107 10 = nI P) (hw : ∀ h, h < P → I 189 h = nI (w h) ∧ w h < P ∧ G (w h) = none) (hl : ∀ h, h < P → I 109 h = nI (ls h) ∧ ls h < 6) (hc : ∀ k, itr w k c < P) (hL : 0 < L) (hp : itr w L c = c) : ∀ (k fu j : Nat) (M : zM) (G' : zGe), M.2.2 = R → (∀ a b, ¬ a = 187 → M.1 a b = I a b) → pGe M.1 187 G' P → rgI w ls c j G G' → unG G' P + j ≤ P → j + k = P → k < fu →
    ∃ (M2 : zM) (G2 : zGe) (j2 : Nat), gX6_closeRing_32 S fu 185 107 (nI (itr w j c)) (nI j) M = some M2 ∧ M2.2.2 = R ∧ (∀ a b, ¬ a = 187 → M2.1 a b = I a b) ∧ pGe M2.1 187 G2 P ∧ rgI w ls c j2 G G2 ∧ ∃ i, i < j2 ∧ itr w (j2 + 1) c = itr w (i + 1) c := by
  have D := cD hS hR
  have N := cN hS hR
  have EE := cE hS hR
  have fin : ∀ (j : Nat) (G' : zGe), rgI w ls c j G G' → G' (itr w (j + 1) c) ≠ none → ∃ i, i < j ∧ itr w (j + 1) c = itr w (i + 1) c := by
    intro j G' hr hne
    rcases zOr (p := fun i => i < j ∧ itr w (j + 1) c = itr w (i + 1) c) with h | h
    · exact h
    · exfalso
      apply hne
      rw [hr.2 _ (fun i hi e => h i ⟨hi, e⟩), itr_s]
      exact (hw _ (hc j)).2.2
  intro k
  induction k with
  | zero =>
    intro fu j M G' hMR hI hG hr hu hk hf
    obtain ⟨fu, rfl⟩ : ∃ f, fu = f + 1 := ⟨fu - 1, by omega⟩
    have hb : P ≤ j := by omega
    have hPM : M.1 107 10 = nI P := (hI 107 10 (by omega)).trans hP
    refine ⟨M, G', j, ?_, hMR, hI, hG, hr, fin j G' hr (fun h => ?_)⟩
    · simp (disch := first | omega | simp only [qI2, hMR]) only [gX6_closeRing_32, ↓N, hPM, nI_leI, ↓if_pos hb]
    · have := unG_0 (hc (j + 1)) h
      omega
  | succ k ih =>
    intro fu j M G' hMR hI hG hr hu hk hf
    obtain ⟨fu, rfl⟩ : ∃ f, fu = f + 1 := ⟨fu - 1, by omega⟩
    have hb : ¬ P ≤ j := by omega
    have hPM : M.1 107 10 = nI P := (hI 107 10 (by omega)).trans hP
    have hx := hc j
    have hx1 := hc (j + 1)
    have es : w (itr w j c) = itr w (j + 1) c := (itr_s w j c).symm
    have g1 : M.1 189 (itr w j c) = nI (itr w (j + 1) c) := by rw [hI 189 _ (by omega), (hw _ hx).1, es]
    have g2 : M.1 109 (itr w j c) = nI (ls (itr w j c)) := by rw [hI 109 _ (by omega)]; exact (hl _ hx).1
    have g3 := pGn hG hx1
    cases q : G' (itr w (j + 1) c) with
    | some v =>
      have g' : ¬ M.1 187 (itr w (j + 1) c) = -1 := fun h => by rw [g3.1 h] at q; cases q
      refine ⟨M, G', j, ?_, hMR, hI, hG, hr, fin j G' hr (by rw [q]; exact Option.some_ne_none _)⟩
      simp (disch := first | omega | simp only [qI2, hMR]) only [gX6_closeRing_32, ↓N, hPM, nI_leI, if_neg hb, ↓D, ↓EE, g1, ↓if_neg g']
    | none =>
      have g' : M.1 187 (itr w (j + 1) c) = -1 := g3.2 q
      have g4 : (zsI M 187 (itr w (j + 1) c) (nI (ls (itr w j c)))).1 189 (itr w j c) = nI (itr w (j + 1) c) := (zsI_ne (by omega)).trans g1
      have hr2 := rgI_s hr (fun i hi e => by
        exfalso
        have := hr.1 i hi
        rw [e, q] at this
        cases this)
      have hu2 : unG (fun y => if y = itr w (j + 1) c then some (ls (itr w j c)) else G' y) P + 1 = unG G' P := by
        refine sR_pt (x := itr w (j + 1) c) P 0 (fun i hi => ?_) (Nat.zero_le _) (by omega) ?_
        · dsimp only; rw [if_neg hi]
        · dsimp only; rw [if_pos rfl, q]; rfl
      obtain ⟨M2, G2, j2, e1, e2⟩ := ih fu (j + 1) (zsI M 187 (itr w (j + 1) c) (nI (ls (itr w j c)))) _ hMR (fun a b h => by rw [zsI_ne (by omega)]; exact hI a b h) (pGe_set (hl _ hx).2 hG) hr2 (by omega) (by omega) (by omega)
      refine ⟨M2, G2, j2, ?_, e2⟩
      rw [← e1]
      simp (disch := first | omega | simp only [qI2, hMR]) only [gX6_closeRing_32, ↓N, hPM, nI_leI, if_neg hb, ↓D, ↓EE, g1, ↓if_pos g', g2, g4, nI_1]
theorem c_share10 {S : List (Nat × Nat)} {R : Nat → Nat → Option Nat} {I : Nat → Nat → Int32} {t : Nat} {E : zEn} {K : zKa} {le : Int32} {B : Nat} (hS : zShp S) (hR : pRf R) (hT : pTs S R t) (ht : t = 43 ∨ t = 75) (hV : pTv I t E) (hK : pSv I 107 E K le) (wE : wfE E) (wK : wfK E K B) : ∀ (k fu j : Nat) (M : zM) (G : zGe), M.2.2 = R → (∀ a b, ¬ q87 a → M.1 a b = I a b) → pGe M.1 187 G (eP E) → unG G (eP E) ≤ k → j + k = eP E → k < fu →
    ∃ (M2 : zM) (G2 : zGe), gX6_share_10 S fu 185 t 107 (nI j) M = some M2 ∧ M2.2.2 = R ∧ (∀ a b, ¬ q87 a → M2.1 a b = I a b) ∧ pGe M2.1 187 G2 (eP E) ∧ zFs E K G G2 ∧ lfG G2 (eP E) 0 = none := by
  have hP12 := wE.2.1
  have hT6 := wE.1
  have D := cD hS hR
  have N := cN hS hR
  have hP := hK.1.2.2.2.2.2.2.2.2.2.2
  intro k
  induction k with
  | zero =>
    intro fu j M G hMR hI hG hu hk hf
    obtain ⟨fu, rfl⟩ : ∃ f, fu = f + 1 := ⟨fu - 1, by omega⟩
    have hb : eP E ≤ j := by omega
    have hPM : M.1 107 10 = nI (eP E) := (hI 107 10 (by unfold q87; omega)).trans hP
    refine ⟨M, G, ?_, hMR, hI, hG, zFs.refl G, lfG_all (fun i h1 h2 h3 => ?_)⟩
    · simp (disch := first | omega | simp only [qI2, hMR]) only [gX6_share_10, ↓N, hPM, nI_leI, ↓if_pos hb]
    · have := unG_0 (P := eP E) (by omega) h3
      omega
  | succ k ih =>
    intro fu j M G hMR hI hG hu hk hf
    obtain ⟨fu, rfl⟩ : ∃ f, fu = f + 1 := ⟨fu - 1, by omega⟩
    have hb : ¬ eP E ≤ j := by omega
    have hPM : M.1 107 10 = nI (eP E) := (hI 107 10 (by unfold q87; omega)).trans hP
    have fl : gX6_firstLeft S 185 (nI (eP E)) M = some (oI (lfG G (eP E) 0)) := c_fl hS (hMR ▸ hR) hP12 hG (eP E) zfu 0 (by omega) (by unfold zfu; omega)
    cases q : lfG G (eP E) 0 with
    | none =>
      have fl2 : gX6_firstLeft S 185 (nI (eP E)) M = some (-1) := by rw [fl, q]; rfl
      refine ⟨M, G, ?_, hMR, hI, hG, zFs.refl G, q⟩
      simp (disch := first | omega | simp only [qI2, hMR]) only [gX6_share_10, ↓N, hPM, nI_leI, if_neg hb, ↓D, ↓bind_of fl2, if_true]
    | some x =>
      have fl2 : gX6_firstLeft S 185 (nI (eP E)) M = some (nI x) := by rw [fl, q]; rfl
      obtain ⟨_, hx, hGx, _⟩ := lfG_some q
      have hx : x < eP E := by omega
      have n1 : ¬ nI x = (-1 : Int32) := nI_m1ne (by omega)
      have hV1 : pTv M.1 t E := pTv_cg (fun a b k1 k2 => hI a b (by unfold q87; omega)) hV
      have hK1 : pSv M.1 107 E K le := pSv_cg (fun a b k1 k2 => hI a b (by unfold q87; omega)) hK
      obtain ⟨M4, e1, e2, e3, e4, e5⟩ := c_wish2 (I := M.1) hS hR hT ht hV1 hK1 wE wK hG (eP E) zfu 0 M hMR (fun _ _ _ => rfl) (by omega) (by unfold zfu; omega)
      have e1' : gX6_wish S 185 t 107 M = some M4 := e1
      have hw : ∀ h, h < eP E → M4.1 189 h = nI (wsh E K G h) ∧ wsh E K G h < eP E ∧ G (wsh E K G h) = none := fun h hh => by
        have k1 := wsh_ok (K := K) hx hGx h
        rw [e5 h (Nat.zero_le _) hh, k1.1]
        exact ⟨rfl, k1.2⟩
      have hc : ∀ k, itr (wsh E K G) k x < eP E := fun k => (wsh_lt hx hGx k).1
      obtain ⟨L, hL, hp⟩ := per_of hc
      have hP4 : M4.1 107 10 = nI (eP E) := (e3 107 10 (by omega)).trans hPM
      have hG4 : pGe M4.1 187 G (eP E) := pGe_cg (fun j => e3 187 j (by omega)) hG
      have r5 : gX6_closeRing_5 S zfu 185 107 (nI x) 0 M4 = _ := c_ring5 (w := wsh E K G) hS (e2 ▸ hR) hP12 hP4 (fun h hh => ⟨(hw h hh).1, (hw h hh).2.1⟩) (eP E) zfu 0 x (by omega) (by unfold zfu; omega) hx
      obtain ⟨M5, G5, j5, f1, f2, f3, f4, f5, f6⟩ := c_ring32 (I := M4.1) (w := wsh E K G) (ls := kLs K) (c := itr (wsh E K G) (eP E) x) (G := G) hS hR hP12 hP4 hw (fun h hh => ⟨by rw [e3 109 h (by omega)]; exact hK1.2.1 h hh, by have := wK.1 h hh; omega⟩) (fun k => by rw [← itr_a]; exact hc _) hL hp (eP E) zfu 0 M4 G e2 (fun _ _ _ => rfl) hG4 rgI_0 (sR_b01 _ _ _) (by omega) (by unfold zfu; omega)
      have f1' : gX6_closeRing S 185 107 (nI x) M4 = some M5 := by
        show gX6_closeRing_5 S zfu 185 107 (nI x) 0 M4 = _
        rw [r5]
        exact f1
      have hR5 : Rnd (wsh E K G) (kLs K) (eP E) x G G5 := ring_end (m := eP E) (Nat.le_refl _) hL hp f5.1 f5.2 f6
      have hu5 := Rnd_un hL hp (wsh_lt hx hGx) hR5
      obtain ⟨M2, G2, d1, d2, d3, d4, d5, d6⟩ := ih fu (j + 1) M5 G5 f2 (fun a b h => by
        unfold q87 at h
        rw [f3 a b (by omega), e3 a b (by omega)]
        exact hI a b h) f4 (by omega) (by omega) (by omega)
      refine ⟨M2, G2, ?_, d2, d3, d4, zFs.step q hR5 d5, d6⟩
      simp (disch := first | omega | simp only [qI2, hMR, e2]) only [gX6_share_10, ↓N, hPM, nI_leI, if_neg hb, ↓D, ↓bind_of fl2, ↓if_neg n1, ↓bind_of e1', ↓bind_of f1', nI_1]
      exact d1
