/-! pure part 52: fair, the model's side -/
def q40 (a : Nat) : Prop := a = 340 ∨ a = 341
theorem m_want4 {S : List (Nat × Nat)} {M : zM} {h : Nat} {E : zEn} {K : zKa} {B : Nat} {G : zGe} (hS : pMs S M.2.2) (hE : pME M.1 E) (hK : pMk M.1 0 E K) (wE : wfE E) (wK : wfK E K B) (hG : pGe M.1 340 G (eP E)) (hh : h < eP E) : ∀ (k fu x : Nat) (b : Option Nat), x + k = eP E → k < fu → (∀ y, b = some y → y < eP E) →
    gX12_wantAt_4 S fu 306 (nI h) (oI b) (nI x) M = some (oI (wishF G (dP E K h) k x b)) := by
  have hP12 := wE.2.1
  have hP := hE.1.2.1
  have ml : mnS E K h < 10 := Nat.lt_succ_of_le (wE.2.2.2.2.2.2.2.2.1 _ (wK.1 h hh))
  have ma := m_mannerAt hS hE hK wE wK hh
  intro k
  induction k with
  | zero =>
    intro fu x b hk hf hb
    obtain ⟨fu, rfl⟩ : ∃ f, fu = f + 1 := ⟨fu - 1, by omega⟩
    have hc : eP E ≤ x := by omega
    simp (disch := first | omega | simp only [qI2, qL2, qC2, qF2]) only [gX12_wantAt_4, ↓mH hS, ↓mL hS, hP, nI_leI, ↓if_pos hc]
    rfl
  | succ k ih =>
    intro fu x b hk hf hb
    obtain ⟨fu, rfl⟩ : ∃ f, fu = f + 1 := ⟨fu - 1, by omega⟩
    have hc : ¬ eP E ≤ x := by omega
    have g := pGn hG (j := x) (by omega)
    show _ = some (oI (wishF G (dP E K h) k (x + 1) (wst1 G (dP E K h) x b)))
    have hb2 : ∀ y, wst1 G (dP E K h) x b = some y → y < eP E := by
      intro y hy
      unfold wst1 at hy
      split at hy
      · exact hb y hy
      · split at hy
        · cases hy; omega
        · split at hy
          · cases hy; omega
          · exact hb y hy
    rw [← ih fu (x + 1) _ (by omega) (by omega) hb2]
    cases q : G x with
    | some v =>
      have g' : ¬ M.1 340 x = -1 := fun h => by rw [g.1 h] at q; cases q
      have e : wst1 G (dP E K h) x b = b := by unfold wst1; rw [q]
      rw [e]
      simp (disch := first | omega | simp only [qI2, qL2, qC2, qF2]) only [gX12_wantAt_4, ↓mH hS, ↓mL hS, hP, nI_leI, if_neg hc, ↓mG hS, ↓if_neg g', nI_1]
    | none =>
      have g' : M.1 340 x = -1 := g.2 q
      cases b with
      | none =>
        have o1 : oI none = (-1 : Int32) := rfl
        have e : wst1 G (dP E K h) x none = some x := by unfold wst1; rw [q]
        rw [e, oIs]
        simp (disch := first | omega | simp only [qI2, qL2, qC2, qF2]) only [gX12_wantAt_4, ↓mH hS, ↓mL hS, hP, nI_leI, if_neg hc, ↓mG hS, ↓if_pos g', ↓if_pos o1, nI_1]
      | some y =>
        have hy := hb y rfl
        have o1 : ¬ nI y = (-1 : Int32) := nI_m1ne (by omega)
        have a1 := m_apart (S := S) (M := M) (x := x) (m := mnS E K h) (by omega) ml
        have a2 := m_apart (S := S) (M := M) (x := y) (m := mnS E K h) (by omega) ml
        have l1 := apN_lt (x := x) (m := mnS E K h) (by omega) ml
        have l2 := apN_lt (x := y) (m := mnS E K h) (by omega) ml
        rw [oIs]
        by_cases r : apN y (mnS E K h) ≤ apN x (mnS E K h)
        · have r' : ¬ dP E K h x < dP E K h y := by unfold dP; omega
          have e : wst1 G (dP E K h) x (some y) = some y := by unfold wst1; rw [q]; dsimp only; rw [if_neg r']
          rw [e, oIs]
          simp (disch := first | omega | simp only [qI2, qL2, qC2, qF2]) only [gX12_wantAt_4, ↓mH hS, ↓mL hS, hP, nI_leI, if_neg hc, ↓mG hS, ↓if_pos g', ↓if_neg o1, ↓bind_of ma, ↓bind_of a1, ↓bind_of a2, ↓if_pos r, nI_1]
        · have r' : dP E K h x < dP E K h y := by unfold dP; omega
          have e : wst1 G (dP E K h) x (some y) = some x := by unfold wst1; rw [q]; dsimp only; rw [if_pos r']
          rw [e, oIs]
          simp (disch := first | omega | simp only [qI2, qL2, qC2, qF2]) only [gX12_wantAt_4, ↓mH hS, ↓mL hS, hP, nI_leI, if_neg hc, ↓mG hS, ↓if_pos g', ↓if_neg o1, ↓bind_of ma, ↓bind_of a1, ↓bind_of a2, if_neg r, nI_1]
theorem m_cl7 {S : List (Nat × Nat)} {R : Nat → Nat → Option Nat} {I : Nat → Nat → Int32} {E : zEn} {K : zKa} {B : Nat} {G : zGe} {x2 x3 : Int32} (hS : pMs S R) (hE : pME I E) (hK : pMk I 0 E K) (wE : wfE E) (wK : wfK E K B) (hG : pGe I 340 G (eP E)) : ∀ (k fu h : Nat) (M : zM), M.2.2 = R → (∀ a b, ¬ a = 341 → M.1 a b = I a b) → h + k = eP E → k < fu →
    ∃ M', gX12_closes_7 S fu 306 x2 x3 (nI h) M = gX12_closes_52 S zfu 306 x2 x3 M' ∧ M'.2.2 = R ∧ (∀ a b, ¬ a = 341 → M'.1 a b = I a b) ∧ (∀ j, ¬ (h ≤ j ∧ j < eP E) → M'.1 341 j = M.1 341 j) ∧ (∀ j, h ≤ j → j < eP E → G j = none → M'.1 341 j = oI (wishF G (dP E K j) (eP E) 0 none)) := by
  have hP12 := wE.2.1
  intro k
  induction k with
  | zero =>
    intro fu h M hMR hI hk hf
    obtain ⟨fu, rfl⟩ : ∃ f, fu = f + 1 := ⟨fu - 1, by omega⟩
    have hc : eP E ≤ h := by omega
    have hP : M.1 308 1 = nI (eP E) := (hI 308 1 (by omega)).trans hE.1.2.1
    refine ⟨M, ?_, hMR, hI, fun _ _ => rfl, fun j h1 h2 => by omega⟩
    simp (disch := first | omega | simp only [qI2, hMR]) only [gX12_closes_7, ↓mH hS, ↓mL hS, hP, nI_leI, ↓if_pos hc]
  | succ k ih =>
    intro fu h M hMR hI hk hf
    obtain ⟨fu, rfl⟩ : ∃ f, fu = f + 1 := ⟨fu - 1, by omega⟩
    have hc : ¬ eP E ≤ h := by omega
    have hP : M.1 308 1 = nI (eP E) := (hI 308 1 (by omega)).trans hE.1.2.1
    have hE' : pME M.1 E := pME_cg (fun a b k1 k2 => hI a b (by omega)) hE
    have hK' : pMk M.1 0 E K := pMk_cg hP12 (fun a b q => hI a b (by unfold mS at q; omega)) hK
    have hG' : pGe M.1 340 G (eP E) := pGe_cg (fun j => hI 340 j (by omega)) hG
    have g := pGn hG' (j := h) (by omega)
    cases q : G h with
    | some v =>
      have g' : ¬ M.1 340 h = -1 := fun h => by rw [g.1 h] at q; cases q
      obtain ⟨M', e1, e2, e3, e4, e5⟩ := ih fu (h + 1) (zsI M 341 h (-1)) hMR (fun a b q => by rw [zsI_ne (by omega)]; exact hI a b q) (by omega) (by omega)
      refine ⟨M', ?_, e2, e3, fun j q => by rw [e4 j (by omega), zsI_ne (by omega)], fun j h1 h2 h3 => ?_⟩
      · rw [← e1]
        simp (disch := first | omega | simp only [qI2, hMR]) only [gX12_closes_7, ↓mH hS, ↓mL hS, hP, nI_leI, if_neg hc, ↓mG hS, ↓if_neg g', nI_1]
      · by_cases hj : j = h
        · rw [hj, q] at h3; cases h3
        · exact e5 j (by omega) h2 h3
    | none =>
      have g' : M.1 340 h = -1 := g.2 q
      have wa : gX12_wantAt S 306 (nI h) M = some (oI (wishF G (dP E K h) (eP E) 0 none)) := m_want4 (hMR ▸ hS) hE' hK' wE wK hG' (by omega) (eP E) zfu 0 none (by omega) (by unfold zfu; omega) (fun y hy => by cases hy)
      obtain ⟨M', e1, e2, e3, e4, e5⟩ := ih fu (h + 1) (zsI M 341 h (oI (wishF G (dP E K h) (eP E) 0 none))) hMR (fun a b q => by rw [zsI_ne (by omega)]; exact hI a b q) (by omega) (by omega)
      refine ⟨M', ?_, e2, e3, fun j q => by rw [e4 j (by omega), zsI_ne (by omega)], fun j h1 h2 h3 => ?_⟩
      · rw [← e1]
        simp (disch := first | omega | simp only [qI2, hMR]) only [gX12_closes_7, ↓mH hS, ↓mL hS, hP, nI_leI, if_neg hc, ↓mG hS, ↓if_pos g', ↓bind_of wa, nI_1]
      · by_cases hj : j = h
        · subst hj
          rw [e4 _ (by omega), zsI_at]
        · exact e5 j (by omega) h2 h3
theorem or24u {p : Nat → Bool} {h : Nat} (hh : h < 24) : nI (bs p 24) ||| ((1 : Int32) <<< (nI h &&& 31)) = nI (bs (upB p h) 24) := by
  rw [shl24 h hh, nI_or]
  congr 1
  apply Nat.eq_of_testBit_eq
  intro i
  rw [Nat.testBit_or, Nat.testBit_two_pow, bs_tb, bs_tb]
  unfold upB
  by_cases e : i = h
  · subst e
    rw [if_pos rfl, decide_eq_true hh, decide_eq_true rfl, Bool.or_true]
    rfl
  · rw [if_neg e, show decide (h = i) = false from decide_eq_false (fun h2 => e h2.symm), Bool.or_false]
theorem m_cl52 {S : List (Nat × Nat)} {M : zM} {w : Nat → Nat} {P x m : Nat} (hS : pMs S M.2.2) (hP12 : P ≤ 12) (hc : ∀ k, itr w k x < P) (hw : ∀ k, M.1 341 (itr w k x) = nI (itr w (k + 1) x)) (hm : ∃ i, i < m ∧ itr w i x = itr w m x) (hn : ∀ m1, m1 < m → ∀ i, i < m1 → itr w i x ≠ itr w m1 x) : ∀ (n fu m1 : Nat) (p : Nat → Bool), m1 + n = m → n < fu → (∀ y, p y = true ↔ ∃ i, i < m1 ∧ itr w i x = y) →
    gX12_closes_52 S fu 306 (nI (bs p 24)) (nI (itr w m1 x)) M = gX12_closes_82 S zfu 306 (nI (itr w m x)) (nI (itr w m x)) 1 M := by
  intro n
  induction n with
  | zero =>
    intro fu m1 p hk hf hp
    obtain ⟨fu, rfl⟩ : ∃ f, fu = f + 1 := ⟨fu - 1, by omega⟩
    have e : m1 = m := by omega
    subst e
    have hx := hc m1
    have b := bsb (p := p) (h := itr w m1 x) (by omega)
    rw [(hp _).2 hm, if_pos rfl] at b
    have b' : ¬ (nI (bs p 24) >>> (nI (itr w m1 x) &&& 31)) &&& 1 = 0 := by rw [b]; decide
    simp (disch := first | omega | simp only [qI2, qL2, qC2, qF2]) only [gX12_closes_52, ↓if_neg b']
  | succ n ih =>
    intro fu m1 p hk hf hp
    obtain ⟨fu, rfl⟩ : ∃ f, fu = f + 1 := ⟨fu - 1, by omega⟩
    have hx := hc m1
    have b := bsb (p := p) (h := itr w m1 x) (by omega)
    have pf : p (itr w m1 x) = false := by
      cases q : p (itr w m1 x) with
      | false => rfl
      | true =>
        obtain ⟨i, k1, k2⟩ := (hp _).1 q
        exact absurd k2 (hn m1 (by omega) i k1)
    rw [pf, if_neg Bool.false_ne_true] at b
    have g := hw m1
    simp (disch := first | omega | simp only [qI2, qL2, qC2, qF2]) only [gX12_closes_52, ↓if_pos b, ↓mH hS, ↓mG hS, g]
    rw [or24u (by omega)]
    exact ih fu (m1 + 1) _ (by omega) (by omega) (fun y => by
      unfold upB
      constructor
      · intro hy
        by_cases e : y = itr w m1 x
        · exact ⟨m1, Nat.lt_succ_self _, e.symm⟩
        · rw [if_neg e] at hy
          obtain ⟨i, j1, j2⟩ := (hp y).1 hy
          exact ⟨i, by omega, j2⟩
      · rintro ⟨i, j1, j2⟩
        by_cases e : y = itr w m1 x
        · rw [if_pos e]
        · rw [if_neg e]
          have : i ≠ m1 := fun h => e (by rw [← j2, h])
          exact (hp y).2 ⟨i, by omega, j2⟩)
theorem m_cl82 {S : List (Nat × Nat)} {R : Nat → Nat → Option Nat} {I : Nat → Nat → Int32} {w ls : Nat → Nat} {P c L : Nat} {G : zGe} (hS : pMs S R) (hP12 : P ≤ 12) (hc : ∀ k, itr w k c < P) (hw : ∀ k, I 341 (itr w k c) = nI (itr w (k + 1) c)) (hl : ∀ h, h < P → I 334 h = nI (ls h) ∧ ls h < 6) (hL : 0 < L) (hp : itr w L c = c) : ∀ (k fu j : Nat) (M : zM) (G' : zGe), M.2.2 = R → (∀ a b, ¬ a = 340 → M.1 a b = I a b) → pGe M.1 340 G' P → rgI w ls c j G G' → j + k + 1 = L → k + 1 < fu →
    ∃ (M2 : zM) (G2 : zGe) (j2 : Nat), gX12_closes_82 S fu 306 (nI (itr w j c)) (nI c) 1 M = some M2 ∧ M2.2.2 = R ∧ (∀ a b, ¬ a = 340 → M2.1 a b = I a b) ∧ pGe M2.1 340 G2 P ∧ rgI w ls c j2 G G2 ∧ ∃ i, i < j2 ∧ itr w (j2 + 1) c = itr w (i + 1) c := by
  have n10 : ¬ (1 : Int32) = 0 := by decide
  have h0 : c < P := hc 0
  have fin : ∀ (fu j : Nat) (M : zM) (G' : zGe), M.2.2 = R → (∀ a b, ¬ a = 340 → M.1 a b = I a b) → pGe M.1 340 G' P → rgI w ls c j G G' → 1 < fu → itr w (j + 1) c = c → ∃ (M2 : zM) (G2 : zGe) (j2 : Nat), gX12_closes_82 S fu 306 (nI (itr w j c)) (nI c) 1 M = some M2 ∧ M2.2.2 = R ∧ (∀ a b, ¬ a = 340 → M2.1 a b = I a b) ∧ pGe M2.1 340 G2 P ∧ rgI w ls c j2 G G2 ∧ ∃ i, i < j2 ∧ itr w (j2 + 1) c = itr w (i + 1) c := by
    intro fu j M G' hMR hI hG hr hf he
    obtain ⟨fu, rfl⟩ : ∃ f, fu = f + 2 := ⟨fu - 2, by omega⟩
    have hx := hc j
    have g1 : M.1 341 (itr w j c) = nI c := by rw [hI 341 _ (by omega), hw j, he]
    have g2 : M.1 334 (itr w j c) = nI (ls (itr w j c)) := by rw [hI 334 _ (by omega)]; exact (hl _ hx).1
    have g4 : (zsI M 340 c (nI (ls (itr w j c)))).1 341 (itr w j c) = nI c := (zsI_ne (by omega)).trans g1
    have r := rgI_s hr (fun i hi e => itr_inj hL hp e)
    rw [he] at r
    refine ⟨zsI M 340 c (nI (ls (itr w j c))), _, j + 1, ?_, hMR, fun a b h => by rw [zsI_ne (by omega)]; exact hI a b h, pGe_set (hl _ hx).2 hG, r, 0, by omega, ?_⟩
    · simp (disch := first | omega | simp only [qI2, hMR]) only [gX12_closes_82, ↓if_neg n10, ↓mH hS, ↓mG hS, g1, g2, g4, if_true]
    · rw [itr_s, he]; rfl
  intro k
  induction k with
  | zero =>
    intro fu j M G' hMR hI hG hr hk hf
    have e : j + 1 = L := by omega
    exact fin fu j M G' hMR hI hG hr (by omega) (by rw [e]; exact hp)
  | succ k ih =>
    intro fu j M G' hMR hI hG hr hk hf
    by_cases he : itr w (j + 1) c = c
    · exact fin fu j M G' hMR hI hG hr (by omega) he
    · obtain ⟨fu, rfl⟩ : ∃ f, fu = f + 1 := ⟨fu - 1, by omega⟩
      have hx := hc j
      have hx1 := hc (j + 1)
      have g1 : M.1 341 (itr w j c) = nI (itr w (j + 1) c) := by rw [hI 341 _ (by omega), hw j]
      have g2 : M.1 334 (itr w j c) = nI (ls (itr w j c)) := by rw [hI 334 _ (by omega)]; exact (hl _ hx).1
      have g4 : (zsI M 340 (itr w (j + 1) c) (nI (ls (itr w j c)))).1 341 (itr w j c) = nI (itr w (j + 1) c) := (zsI_ne (by omega)).trans g1
      obtain ⟨M2, G2, j2, e1, e2⟩ := ih fu (j + 1) (zsI M 340 (itr w (j + 1) c) (nI (ls (itr w j c)))) _ hMR (fun a b h => by rw [zsI_ne (by omega)]; exact hI a b h) (pGe_set (hl _ hx).2 hG) (rgI_s hr (fun i hi e => itr_inj hL hp e)) (by omega) (by omega)
      refine ⟨M2, G2, j2, ?_, e2⟩
      rw [← e1]
      simp (disch := first | omega | simp only [qI2, hMR]) only [gX12_closes_82, ↓if_neg n10, ↓mH hS, ↓mG hS, g1, g2, g4, nI_eq, if_neg he]
