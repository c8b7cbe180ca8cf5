/-! pure part 9: a day of the class from its begin on -/
abbrev zWh : Type := Option Nat × Nat × Int32 × Int32
def midK (r : zWh) (K : zKa) : zKa := ((kDy K, r.2.1, r.2.2.1, r.2.2.2, kDa K, kLa K), K.2)
theorem trnS_mid {E : zEn} {K : zKa} {mo : zMo} {r : zWh} : ∀ k x, trnS E (midK r K) mo k x = trnS E K mo k x
  | 0, _ => rfl
  | k + 1, x => by
    show (if wilS E K mo (kLs K x) then _ else _) = (if wilS E K mo (kLs K x) then _ else _)
    rw [trnS_mid k (bhd (eP E) x)]
    rfl
def turS (E : zEn) (mo : zMo) (K : zKa) : zWh :=
  match trnS E K mo (eP E) (if (misS mo (kNu K)).1 then bhd (eP E) (kNx K) else kNx K) with
  | some q => (some q.1, q.2, (misS mo (kNu K)).2, if (misS mo (kNu K)).1 then kMi K + 1 else kMi K)
  | none => (none, if (misS mo (kNu K)).1 then bhd (eP E) (kNx K) else kNx K, (misS mo (kNu K)).2, if (misS mo (kNu K)).1 then kMi K + 1 else kMi K)
def whoS (E : zEn) (mo : zMo) (K : zKa) : zWh := match kAp K with
  | some t => (some t, kNx K, kNu K, kMi K)
  | none => match (if mo.2.2.1 then eCl E (kDy K) else none) with
    | some t => (some t, kNx K, kNu K, kMi K)
    | none => if eP E = 0 then (none, kNx K, kNu K, kMi K) else turS E mo K
def dayS (E : zEn) (mo : zMo) (K : zKa) : zKa := endS E mo (midK (whoS E mo K) K) (whoS E mo K).1
theorem bhd_lt {P x : Nat} (h : 0 < P) : bhd P x < P := by unfold bhd; split <;> omega
theorem e_byTurns {S : List (Nat × Nat)} {M : zM} {c t h p : Nat} {E : zEn} {K : zKa} {le : Int32} {mo : zMo} (hC : pCs S M.2.2 c t h) (hM : pCv M.1 c h E mo) (hT : pTs S M.2.2 t) (hV : pTv M.1 t E) (hS : pSs S M.2.2 p) (hK : pSv M.1 p E K le) (hE : wfE E) (hd : p + 8 < t ∨ t + 31 < p) (hcd : p + 8 < c ∨ c < p) (hhd : p + 8 < h ∨ h + 1 < p) (hu : ∀ j, mo.2.2.2.2 = some j → j < 6) (hsl : mo.2.2.2.1 ≤ 100) (hL : ∀ i, i < eP E → kLs K i < eT E) (hP : 0 < eP E) (hx : kNx K < eP E) :
    ∃ M', gX0_byTurns S c p M = some (oI (turS E mo K).1, M') ∧ pSv M'.1 p E (midK (turS E mo K) K) le ∧ M'.2.2 = M.2.2 ∧ ∀ a b, ¬ (p ≤ a ∧ a ≤ p + 8) → M'.1 a b = M.1 a b := by
  have s0 := hS.1
  have hP12 := hE.2.1
  obtain ⟨⟨v0, v1, v2, v3, v4, v5, v6, v7, v8, v9, v10⟩, vl, vk, vw⟩ := id hK
  obtain ⟨M2, a1, a2, a3, a4⟩ := e_isMistake hC.1 s0 hM.2.1 hM.2.2.2.1 hsl (show c ≠ p by omega)
  rw [v2] at a1 a3
  have n2 : ¬ p + 2 = p := by omega
  have n4 : ¬ p + 4 = p := by omega
  have n6 : ¬ p + 6 = p := by omega
  have n8 : ¬ p + 8 = p := by omega
  -- the loop's start: M5 bears the middle calendar
  have loop : ∀ (M5 : zM) (x : Nat) (mi : Int32), M5.2 = M.2 → M5.1 p 1 = nI x → M5.1 p 6 = mi → M5.1 p 2 = (misS mo (kNu K)).2 → (∀ a b, ¬ (a = p ∧ (b = 1 ∨ b = 2 ∨ b = 6)) → M5.1 a b = M.1 a b) → x < eP E → ∃ M', gX0_byTurns_40 S zfu c p (nI x) 0 0 M5 = some (oI ((trnS E K mo (eP E) x).map (fun q => q.1)), M') ∧ pSv M'.1 p E (midK (match trnS E K mo (eP E) x with | some q => (some q.1, q.2, (misS mo (kNu K)).2, mi) | none => (none, x, (misS mo (kNu K)).2, mi)) K) le ∧ M'.2.2 = M.2.2 ∧ ∀ a b, ¬ (p ≤ a ∧ a ≤ p + 8) → M'.1 a b = M.1 a b := by
    intro M5 x mi h1 h2 h3 h4 h5 hx5
    have hK5 : pSv M5.1 p E (midK (none, x, (misS mo (kNu K)).2, mi) K) le := by
      refine ⟨⟨?_, h2, h4, ?_, ?_, ?_, h3, ?_, ?_, ?_, ?_⟩, fun i hi => ?_, fun i hi => ⟨?_, ?_⟩, fun w hw => ?_⟩
      · rw [h5 p 0 (by omega)]; exact v0
      · rw [h5 p 3 (by omega)]; exact v3
      · rw [h5 p 4 (by omega)]; exact v4
      · rw [h5 p 5 (by omega)]; exact v5
      · rw [h5 p 7 (by omega)]; exact v7
      · rw [h5 p 8 (by omega)]; exact v8
      · rw [h5 p 9 (by omega)]; exact v9
      · rw [h5 p 10 (by omega)]; exact v10
      · rw [h5 (p + 2) i (by omega)]; exact vl i hi
      · rw [h5 (p + 4) i (by omega)]; exact (vk i hi).1
      · rw [h5 (p + 6) i (by omega)]; exact (vk i hi).2
      · rw [h5 (p + 8) w (by omega)]; exact vw w hw
    have hM5 : pCv M5.1 c h E mo := by
      refine ⟨fun i hi => ?_, ?_, ?_, ?_, ?_⟩
      · rw [h5 (h + 1) i (by omega)]; exact hM.1 i hi
      · rw [h5 c 2 (by omega)]; exact hM.2.1
      · rw [h5 c 3 (by omega)]; exact hM.2.2.1
      · rw [h5 c 4 (by omega)]; exact hM.2.2.2.1
      · rw [h5 c 5 (by omega)]; exact hM.2.2.2.2
    have hV5 : pTv M5.1 t E := pTv_cg (fun a b k1 k2 => h5 a b (by omega)) hV
    have hR5 : M5.2.2 = M.2.2 := by rw [h1]
    obtain ⟨M', e1, e2, e3, e4⟩ := e_byTurns40 (R := M.2.2) (I := M5.1) (K := midK (none, x, (misS mo (kNu K)).2, mi) K) (le := le) hC hM5 hT hV5 hS hK5 hE hu hL (eP E) zfu x 0 M5 hR5 rfl (Nat.le_refl _) hx5 (by decide) (fun j _ hj => by simp at hj) (by unfold zfu; omega)
    rw [trnS_mid, Nat.sub_self] at e1
    rw [trnS_mid] at e4
    have hfin : ∀ y : Nat, M'.1 p 1 = nI y → ∀ wh : Option Nat, pSv M'.1 p E (midK (wh, y, (misS mo (kNu K)).2, mi) K) le := by
      intro y hy wh
      obtain ⟨⟨w0, w1, w2, w3, w4, w5, w6, w7, w8, w9, w10⟩, wl, wk, ww⟩ := hK5
      refine ⟨⟨?_, hy, ?_, ?_, ?_, ?_, ?_, ?_, ?_, ?_, ?_⟩, fun i hi => ?_, fun i hi => ⟨?_, ?_⟩, fun w hw => ?_⟩
      · rw [e3 p 0 (by omega)]; exact w0
      · rw [e3 p 2 (by omega)]; exact w2
      · rw [e3 p 3 (by omega)]; exact w3
      · rw [e3 p 4 (by omega)]; exact w4
      · rw [e3 p 5 (by omega)]; exact w5
      · rw [e3 p 6 (by omega)]; exact w6
      · rw [e3 p 7 (by omega)]; exact w7
      · rw [e3 p 8 (by omega)]; exact w8
      · rw [e3 p 9 (by omega)]; exact w9
      · rw [e3 p 10 (by omega)]; exact w10
      · rw [e3 (p + 2) i (by omega)]; exact wl i hi
      · rw [e3 (p + 4) i (by omega)]; exact (wk i hi).1
      · rw [e3 (p + 6) i (by omega)]; exact (wk i hi).2
      · rw [e3 (p + 8) w (by omega)]; exact ww w hw
    refine ⟨M', e1, ?_, e2, fun a b hab => by rw [e3 a b (by omega), h5 a b (by omega)]⟩
    cases ht : trnS E K mo (eP E) x with
    | none => rw [ht] at e4; exact hfin x (e4.trans h2) none
    | some q => rw [ht] at e4; exact hfin q.2 e4 (some q.1)
  unfold gX0_byTurns turS
  rw [zrc_ok hC.1, a1]
  simp only [zb2, Option.bind_some]
  cases hm : (misS mo (kNu K)).1 with
  | false =>
    rw [if_pos (show bI false = 0 from rfl), zgI_ok s0, a4 p 1 (by omega), v1]
    obtain ⟨M', e1, e2, e3, e4⟩ := loop M2 (kNx K) (kMi K) a2 (by rw [a4 p 1 (by omega)]; exact v1) (by rw [a4 p 6 (by omega)]; exact v6) a3 (fun a b hab => a4 a b (by omega)) hx
    refine ⟨M', ?_, ?_, e3, e4⟩
    · rw [e1]
      simp only [Bool.false_eq_true, if_false]
      cases trnS E K mo (eP E) (kNx K) <;> rfl
    · simp only [Bool.false_eq_true, if_false]
      exact e2
  | true =>
    have hb : bhd (eP E) (kNx K) < eP E := bhd_lt hP
    rw [if_neg (show ¬ bI true = 0 by decide), zgI_ok s0, a4 p 6 (by omega), v6, zpI_ok s0, zgI_ok s0, zsI_ne (by omega), a4 p 1 (by omega), v1, zrc_ok s0, e_behind (M := zsI M2 p 6 (kMi K + 1)) s0 (by rw [zsI_ne (by omega), a4 p 10 (by omega)]; exact v10) (by omega) hP12, Option.bind_some, zpI_ok s0, zgI_ok s0, zsI_at]
    obtain ⟨M', e1, e2, e3, e4⟩ := loop (zsI (zsI M2 p 6 (kMi K + 1)) p 1 (nI (bhd (eP E) (kNx K)))) (bhd (eP E) (kNx K)) (kMi K + 1) a2 (zsI_at _ _ _ _) (by rw [zsI_ne (by omega), zsI_at]) (by rw [zsI_ne (by omega), zsI_ne (by omega)]; exact a3) (fun a b hab => by rw [zsI_ne (by omega), zsI_ne (by omega), a4 a b (by omega)]) hb
    refine ⟨M', ?_, ?_, e3, e4⟩
    · rw [e1]
      simp only [if_true]
      cases trnS E K mo (eP E) (bhd (eP E) (kNx K)) <;> rfl
    · simp only [if_true]
      exact e2
