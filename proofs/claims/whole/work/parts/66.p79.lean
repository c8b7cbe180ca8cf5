/-! pure part 79: lines: the model's turns, slips, seeds, claims -/
section ML
variable {S : List (Nat × Nat)} {M : zM} {T : Nat → Nat} {n : Nat} {tk : zTk} {E : zEn} {sl sd : Bool} {ln : Nat}
theorem mDr_P1 {j : Nat} (hD : mDr M.1 E) (h2 : M.1 312 (12 + eP E) = nI j) : mDr (zsI M 308 8 (nI (eP E + 1))).1 (adP E j) := by
  obtain ⟨⟨a1, a2, a3, a4, a5, a6, a7⟩, b, c, d, e, f⟩ := hD
  refine ⟨⟨(zsI_ne (by omega)).trans a1, zsI_at _ _ _ _, (zsI_ne (by omega)).trans a3, (zsI_ne (by omega)).trans a4, (zsI_ne (by omega)).trans a5, (zsI_ne (by omega)).trans a6, (zsI_ne (by omega)).trans a7⟩, fun i hi => ⟨(zsI_ne (by omega)).trans (b i hi).1, (zsI_ne (by omega)).trans (b i hi).2.1, (zsI_ne (by omega)).trans (b i hi).2.2⟩, fun i hi => ?_, fun i hi => (zsI_ne (by omega)).trans (d i hi), fun i hi => ⟨(zsI_ne (by omega)).trans (e i hi).1, (zsI_ne (by omega)).trans (e i hi).2.1, (zsI_ne (by omega)).trans (e i hi).2.2.1, (zsI_ne (by omega)).trans (e i hi).2.2.2⟩, mD5_cg (fun x y k1 k2 => zsI_ne (by omega)) f⟩
  rw [zsI_ne (by omega)]
  show M.1 312 (12 + i) = nI (uqA (eLs E) (eP E) j i)
  have hi' : i < eP E + 1 := hi
  by_cases q : i = eP E
  · rw [q, uqA_i]; exact h2
  · rw [uqA_n q]; exact c i (by omega)
theorem mDr_S1 {s : Nat} (hD : mDr M.1 E) : mDr (zsI M 308 11 (nI s)).1 (adS E s) := by
  obtain ⟨⟨a1, a2, a3, a4, a5, a6, a7⟩, b, c, d, e, f⟩ := hD
  exact ⟨⟨(zsI_ne (by omega)).trans a1, (zsI_ne (by omega)).trans a2, (zsI_ne (by omega)).trans a3, (zsI_ne (by omega)).trans a4, zsI_at _ _ _ _, (zsI_ne (by omega)).trans a6, (zsI_ne (by omega)).trans a7⟩, fun i hi => ⟨(zsI_ne (by omega)).trans (b i hi).1, (zsI_ne (by omega)).trans (b i hi).2.1, (zsI_ne (by omega)).trans (b i hi).2.2⟩, fun i hi => (zsI_ne (by omega)).trans (c i hi), fun i hi => (zsI_ne (by omega)).trans (d i hi), fun i hi => ⟨(zsI_ne (by omega)).trans (e i hi).1, (zsI_ne (by omega)).trans (e i hi).2.1, (zsI_ne (by omega)).trans (e i hi).2.2.1, (zsI_ne (by omega)).trans (e i hi).2.2.2⟩, mD5_cg (fun x y k1 k2 => zsI_ne (by omega)) f⟩
theorem mDr_D1 {s : Int32} (hD : mDr M.1 E) : mDr (zsI M 308 12 s).1 (adD E s) := by
  obtain ⟨⟨a1, a2, a3, a4, a5, a6, a7⟩, b, c, d, e, f⟩ := hD
  exact ⟨⟨(zsI_ne (by omega)).trans a1, (zsI_ne (by omega)).trans a2, (zsI_ne (by omega)).trans a3, (zsI_ne (by omega)).trans a4, (zsI_ne (by omega)).trans a5, zsI_at _ _ _ _, (zsI_ne (by omega)).trans a7⟩, fun i hi => ⟨(zsI_ne (by omega)).trans (b i hi).1, (zsI_ne (by omega)).trans (b i hi).2.1, (zsI_ne (by omega)).trans (b i hi).2.2⟩, fun i hi => (zsI_ne (by omega)).trans (c i hi), fun i hi => (zsI_ne (by omega)).trans (d i hi), fun i hi => ⟨(zsI_ne (by omega)).trans (e i hi).1, (zsI_ne (by omega)).trans (e i hi).2.1, (zsI_ne (by omega)).trans (e i hi).2.2.1, (zsI_ne (by omega)).trans (e i hi).2.2.2⟩, mD5_cg (fun x y k1 k2 => zsI_ne (by omega)) f⟩
theorem mDr_C1 {d j : Nat} (hd : d < 100) (hD : mDr M.1 E) : mDr (zsI (zsI M 313 (100 + d) (nI j)) 308 9 (nI (eC E + 1))).1 (adC E d j) := by
  obtain ⟨⟨a1, a2, a3, a4, a5, a6, a7⟩, b, c, dd, e, f⟩ := hD
  have z : ∀ x y, ¬ (x = 308 ∧ y = 9) → ¬ (x = 313 ∧ y = 100 + d) → (zsI (zsI M 313 (100 + d) (nI j)) 308 9 (nI (eC E + 1))).1 x y = M.1 x y := fun x y h1 h2 => by rw [zsI_ne (by omega), zsI_ne (by omega)]
  refine ⟨⟨(z _ _ (by omega) (by omega)).trans a1, (z _ _ (by omega) (by omega)).trans a2, zsI_at _ _ _ _, (z _ _ (by omega) (by omega)).trans a4, (z _ _ (by omega) (by omega)).trans a5, (z _ _ (by omega) (by omega)).trans a6, (z _ _ (by omega) (by omega)).trans a7⟩, fun i hi => ⟨(z _ _ (by omega) (by omega)).trans (b i hi).1, (z _ _ (by omega) (by omega)).trans (b i hi).2.1, (z _ _ (by omega) (by omega)).trans (b i hi).2.2⟩, fun i hi => (z _ _ (by omega) (by omega)).trans (c i hi), fun i hi => ?_, fun i hi => ⟨(z _ _ (by omega) (by omega)).trans (e i hi).1, (z _ _ (by omega) (by omega)).trans (e i hi).2.1, (z _ _ (by omega) (by omega)).trans (e i hi).2.2.1, (z _ _ (by omega) (by omega)).trans (e i hi).2.2.2⟩, mD5_cg (fun x y k1 k2 => z _ _ (by omega) (by omega)) f⟩
  show _ = oI (uqA (eCl E) d (some j) i)
  by_cases q : i = d
  · rw [q, uqA_i, zsI_ne (by omega), zsI_at]; rfl
  · rw [uqA_n q, z _ _ (by omega) (by omega)]; exact dd i hi
theorem m_turns (h : mPp S M T n tk E sl sd ln) (hn : n ≤ 700) (ho : tkOk n 0 tk) (wE : wfE E) (hlim : eP E < 12) : ∃ M', gX12_line_70 S 306 1 M = some M' ∧ mKr S T n (ln + 1) M (finL T n (lnP T n tk E sl sd)) M' := by
  obtain ⟨hS, h24, h21, tsv⟩ := mPp_t h
  have o1 := nxk_ok (T := T) hn ho 1
  have o2 := nxk_ok (T := T) hn ho 2
  have o3 := nxk_ok (T := T) hn ho 3
  obtain ⟨v0, M4, p1, p2, p3, p4, p5⟩ := m_pre h ho (w := 1) (by omega)
  rw [if_neg (by omega), if_neg (by omega)] at p5
  have p1' : M.1 306 17 ||| ((1 : Int32) <<< (1 &&& 31)) = v0 := p1
  have hS4 : pMs S M4.2.2 := p3.symm ▸ hS
  have g4 : M4.1 308 8 = nI (eP E) := p5.2.2.1.1.2.1
  have frs : ∀ M' : zM, M'.2.2 = M.2.2 → M'.1 308 8 = nI (eP E) → gX12_fresher S 306 1 M' = some (nI (eP E)) := fun M' r g => (m_frs (M := M') (k := 1) (r.symm ▸ hS) rfl (by omega)).trans (by rw [g])
  have rds : ∀ M' : zM, M'.2.2 = M.2.2 → gX12_reads S 306 1 (nI (eP E) + 1) M' = some (zsI M' 308 8 (nI (eP E + 1))) := fun M' r => by rw [nI_1]; exact m_rds (M := M') (k := 1) (r.symm ▸ hS) rfl (by omega)
  have w312 : ∀ (ρ : Type) (M' : zM) (v : Int32) (f : zM → Option ρ), zbI S M' 312 ((12 : Int32) + nI (eP E)) v f = f (zsI M' 312 (12 + eP E) v) := fun ρ M' v f => wU (c := 12) (N := 24) (pMg hS 7 312 100 24 (by decide)).2 (by omega) (by decide) ρ M' v f
  have fr4 := frs M4 p3 g4
  obtain ⟨N1, f1, f2, f3, f4⟩ := mPp_nx p5 o1
  obtain ⟨N1', f1', fr⟩ := m_trA p5 o1 wE
  have := tok_u f1 f1'
  subst this
  unfold lnP
  rw [if_neg (by omega)]
  unfold chk
  have cle := tr_le (tk := nxk T n 1 tk) (f := nmT E (nxk T n 1 tk))
  have fr' : gX12_tradeAhead S 306 M4 = some (if trF (nmT E (nxk T n 1 tk)) (nxk T n 1 tk) = 0 then (oI (nmT E (nxk T n 1 tk)), N1) else (0, wFm M4 (trF (nmT E (nxk T n 1 tk)) (nxk T n 1 tk)) (nxk T n 1 tk).2.2.1)) := fr
  have t2 := tr_2 (tk := nxk T n 1 tk) (f := nmT E (nxk T n 1 tk))
  generalize hc1 : trF (nmT E (nxk T n 1 tk)) (nxk T n 1 tk) = q1 at fr' cle t2
  by_cases e1 : q1 = 0
  rotate_left
  · rw [if_neg e1] at fr' ⊢
    have cl' := cle e1
    have dd : ¬ (zsI (zsI (wFm M4 q1 (nxk T n 1 tk).2.2.1) 312 (12 + eP E) 0) 308 8 (nI (eP E + 1))).1 306 24 = 0 := by rw [zsI_ne (by omega), zsI_ne (by omega)]; exact wFm_d cl'
    have d3 := d_358 (S := S) (M := zsI (zsI (wFm M4 q1 (nxk T n 1 tk).2.2.1) 312 (12 + eP E) 0) 308 8 (nI (eP E + 1))) (by exact hS4) dd
    have fq := frs (zsI (wFm M4 q1 (nxk T n 1 tk).2.2.1) 312 (12 + eP E) 0) (by exact p3) (by rw [zsI_ne (by omega)]; unfold wFm; rw [zsI_ne (by omega), zsI_ne (by omega)]; exact g4)
    have rq := rds (zsI (wFm M4 q1 (nxk T n 1 tk).2.2.1) 312 (12 + eP E) 0) (by exact p3)
    have hSW : pMs S (wFm M4 q1 (nxk T n 1 tk).2.2.1).2.2 := hS4
    refine ⟨zsI (zsI (wFm M4 q1 (nxk T n 1 tk).2.2.1) 312 (12 + eP E) 0) 308 8 (nI (eP E + 1)), ?_, mK_i cl' (by exact p3) (fun x y z => ?_) (by rw [zsI_ne (by omega), zsI_ne (by omega)]; unfold wFm; rw [zsI_ne (by omega), zsI_at]) (by rw [zsI_ne (by omega), zsI_ne (by omega)]; exact zsI_at _ _ _ _)⟩
    · simp (disch := first | omega | simp only [qI2, qL2, qC2, qF2]) only [gX12_line_70, ↓mH hS, h24, p1', ↓bind_of p2, if_neg (show ¬ (1 : Int32) = 0 by decide), if_true, ↓mH hS4, ↓bind_of fr4, ↓zb2_of fr', ↓w312, ↓mH hSW, ↓bind_of fq, ↓bind_of rq, d3]
    · unfold wFm
      rw [zsI_ne (by unfold mPq at z; omega), zsI_ne (by unfold mPq at z; omega), zsI_ne (by unfold mPq at z; omega), zsI_ne (by unfold mPq at z; omega)]
      exact p4 x y z
  rw [if_pos e1] at fr' ⊢
  obtain ⟨k2, j, hj⟩ := t2 e1
  have hjT : fnd (eTn E) (nI (nxk T n 1 tk).2.1) (eT E) 0 = some j := hj
  rw [hj] at fr' ⊢
  have fr2 : gX12_tradeAhead S 306 M4 = some (nI j, N1) := fr'
  have r1 : N1.2.2 = M.2.2 := f2.trans p3
  have hN1 : pMs S N1.2.2 := r1.symm ▸ hS
  have b1 := mPp_dd (x := 312) (y := 12 + eP E) (v := nI j) f4 (by omega) (by unfold mDd; omega)
  have fq := frs (zsI N1 312 (12 + eP E) (nI j)) r1 b1.2.2.1.1.2.1
  have rq := rds (zsI N1 312 (12 + eP E) (nI j)) r1
  have bF : mPp S (zsI (zsI N1 312 (12 + eP E) (nI j)) 308 8 (nI (eP E + 1))) T n (nxk T n 2 tk) (adP E j) sl sd ln := mPp_ad b1 (by omega) rfl rfl (mDr_P1 b1.2.2.1 (zsI_at _ _ _ _))
  obtain ⟨M9, z1, z2⟩ := m_358 bF o2 (M0 := M) r1 (fun x y z => by
    rw [zsI_ne (by unfold mPq at z; omega), zsI_ne (by unfold mPq at z; omega), f3 x y (by unfold mPq at z; unfold qTk; omega)]
    exact p4 x y z)
  refine ⟨M9, ?_, z2⟩
  simp (disch := first | omega | simp only [qI2, qL2, qC2, qF2]) only [gX12_line_70, ↓mH hS, h24, p1', ↓bind_of p2, if_neg (show ¬ (1 : Int32) = 0 by decide), if_true, ↓mH hS4, ↓bind_of fr4, ↓zb2_of fr2, ↓w312, ↓mH hN1, ↓bind_of fq, ↓bind_of rq]
  exact z1
theorem m_slips (h : mPp S M T n tk E sl sd ln) (hn : n ≤ 700) (ho : tkOk n 0 tk) (wE : wfE E) (hfl : sl = false) : ∃ M', gX12_line_70 S 306 4 M = some M' ∧ mKr S T n (ln + 1) M (finL T n (lnS T n tk E sl sd)) M' := by
  obtain ⟨hS, h24, h21, tsv⟩ := mPp_t h
  have o1 := nxk_ok (T := T) hn ho 1
  have o2 := nxk_ok (T := T) hn ho 2
  have o3 := nxk_ok (T := T) hn ho 3
  obtain ⟨v0, M4, p1, p2, p3, p4, p5⟩ := m_pre h ho (w := 4) (by omega)
  rw [if_pos rfl, if_neg (by omega)] at p5
  have p1' : M.1 306 17 ||| ((1 : Int32) <<< (4 &&& 31)) = v0 := p1
  have hS4 : pMs S M4.2.2 := p3.symm ▸ hS
  have rds : ∀ (M' : zM) (v : Int32), M'.2.2 = M.2.2 → gX12_reads S 306 4 v M' = some (zsI M' 308 11 v) := fun M' v r => m_rds (M := M') (k := 4) (r.symm ▸ hS) rfl (by omega)
  obtain ⟨N1, f1, f2, f3, f4⟩ := mPp_nx p5 o1
  obtain ⟨N1', f1', fr⟩ := m_num (lo := 0) (hi := 100) p5 o1 (by decide) (by decide)
  have := tok_u f1 f1'
  subst this
  unfold lnS
  rw [hfl, if_neg Bool.false_ne_true]
  unfold chk
  have cle := nb_le (tk := nxk T n 1 tk) (lo := 0) (hi := 100)
  have fr' : gX12_numeral S 306 0 100 M4 = some (if nbF 0 100 (nxk T n 1 tk) = 0 then (nI (nxk T n 1 tk).2.1, N1) else (0, wFm M4 (nbF 0 100 (nxk T n 1 tk)) (nxk T n 1 tk).2.2.1)) := fr
  generalize hc1 : nbF 0 100 (nxk T n 1 tk) = q1 at fr' cle
  by_cases e1 : q1 = 0
  rotate_left
  · rw [if_neg e1] at fr' ⊢
    have cl' := cle e1
    have dd : ¬ (zsI (wFm M4 q1 (nxk T n 1 tk).2.2.1) 308 11 0).1 306 24 = 0 := by rw [zsI_ne (by omega)]; exact wFm_d cl'
    have d3 := d_358 (S := S) (M := zsI (wFm M4 q1 (nxk T n 1 tk).2.2.1) 308 11 0) (by exact hS4) dd
    have rq := rds (wFm M4 q1 (nxk T n 1 tk).2.2.1) 0 (by exact p3)
    have hSW : pMs S (wFm M4 q1 (nxk T n 1 tk).2.2.1).2.2 := hS4
    refine ⟨zsI (wFm M4 q1 (nxk T n 1 tk).2.2.1) 308 11 0, ?_, mK_i cl' (by exact p3) (fun x y z => ?_) (by rw [zsI_ne (by omega)]; unfold wFm; rw [zsI_ne (by omega), zsI_at]) (by rw [zsI_ne (by omega)]; exact zsI_at _ _ _ _)⟩
    · simp (disch := first | omega | simp only [qI2, qL2, qC2, qF2]) only [gX12_line_70, ↓mH hS, h24, p1', ↓bind_of p2, if_neg (show ¬ (4 : Int32) = 0 by decide), if_neg (show ¬ (4 : Int32) = 1 by decide), if_neg (show ¬ (4 : Int32) = 2 by decide), if_neg (show ¬ (4 : Int32) = 3 by decide), if_true, ↓mH hS4, ↓zb2_of fr', ↓mH hSW, ↓bind_of rq, d3]
    · unfold wFm
      rw [zsI_ne (by unfold mPq at z; omega), zsI_ne (by unfold mPq at z; omega), zsI_ne (by unfold mPq at z; omega)]
      exact p4 x y z
  rw [if_pos e1] at fr' ⊢
  have r1 : N1.2.2 = M.2.2 := f2.trans p3
  have hN1 : pMs S N1.2.2 := r1.symm ▸ hS
  have rq := rds N1 (nI (nxk T n 1 tk).2.1) r1
  have bF : mPp S (zsI N1 308 11 (nI (nxk T n 1 tk).2.1)) T n (nxk T n 2 tk) (adS E (nxk T n 1 tk).2.1) true sd ln := mPp_ad f4 (by omega) rfl rfl (mDr_S1 f4.2.2.1)
  obtain ⟨M9, z1, z2⟩ := m_358 bF o2 (M0 := M) r1 (fun x y z => by
    rw [zsI_ne (by unfold mPq at z; omega), f3 x y (by unfold mPq at z; unfold qTk; omega)]
    exact p4 x y z)
  refine ⟨M9, ?_, z2⟩
  simp (disch := first | omega | simp only [qI2, qL2, qC2, qF2]) only [gX12_line_70, ↓mH hS, h24, p1', ↓bind_of p2, if_neg (show ¬ (4 : Int32) = 0 by decide), if_neg (show ¬ (4 : Int32) = 1 by decide), if_neg (show ¬ (4 : Int32) = 2 by decide), if_neg (show ¬ (4 : Int32) = 3 by decide), if_true, ↓mH hS4, ↓zb2_of fr', ↓mH hN1, ↓bind_of rq]
  exact z1
theorem m_seeds (h : mPp S M T n tk E sl sd ln) (hn : n ≤ 700) (ho : tkOk n 0 tk) (wE : wfE E) (hfl : sd = false) : ∃ M', gX12_line_70 S 306 5 M = some M' ∧ mKr S T n (ln + 1) M (finL T n (lnD T n tk E sl sd)) M' := by
  obtain ⟨hS, h24, h21, tsv⟩ := mPp_t h
  have o1 := nxk_ok (T := T) hn ho 1
  have o2 := nxk_ok (T := T) hn ho 2
  have o3 := nxk_ok (T := T) hn ho 3
  obtain ⟨v0, M4, p1, p2, p3, p4, p5⟩ := m_pre h ho (w := 5) (by omega)
  rw [if_neg (by omega), if_pos rfl] at p5
  have p1' : M.1 306 17 ||| ((1 : Int32) <<< (5 &&& 31)) = v0 := p1
  have hS4 : pMs S M4.2.2 := p3.symm ▸ hS
  have rds : ∀ (M' : zM) (v : Int32), M'.2.2 = M.2.2 → gX12_reads S 306 5 v M' = some (zsI M' 308 12 v) := fun M' v r => m_rds (M := M') (k := 5) (r.symm ▸ hS) rfl (by omega)
  obtain ⟨N1, f1, f2, f3, f4⟩ := mPp_nx p5 o1
  obtain ⟨N1', f1', fr⟩ := m_num (lo := 0) (hi := 99999) p5 o1 (by decide) (by decide)
  have := tok_u f1 f1'
  subst this
  unfold lnD
  rw [hfl, if_neg Bool.false_ne_true]
  unfold chk
  have cle := nb_le (tk := nxk T n 1 tk) (lo := 0) (hi := 99999)
  have fr' : gX12_numeral S 306 0 99999 M4 = some (if nbF 0 99999 (nxk T n 1 tk) = 0 then (nI (nxk T n 1 tk).2.1, N1) else (0, wFm M4 (nbF 0 99999 (nxk T n 1 tk)) (nxk T n 1 tk).2.2.1)) := fr
  generalize hc1 : nbF 0 99999 (nxk T n 1 tk) = q1 at fr' cle
  by_cases e1 : q1 = 0
  rotate_left
  · rw [if_neg e1] at fr' ⊢
    have cl' := cle e1
    have dd : ¬ (zsI (wFm M4 q1 (nxk T n 1 tk).2.2.1) 308 12 0).1 306 24 = 0 := by rw [zsI_ne (by omega)]; exact wFm_d cl'
    have d3 := d_358 (S := S) (M := zsI (wFm M4 q1 (nxk T n 1 tk).2.2.1) 308 12 0) (by exact hS4) dd
    have rq := rds (wFm M4 q1 (nxk T n 1 tk).2.2.1) 0 (by exact p3)
    have hSW : pMs S (wFm M4 q1 (nxk T n 1 tk).2.2.1).2.2 := hS4
    refine ⟨zsI (wFm M4 q1 (nxk T n 1 tk).2.2.1) 308 12 0, ?_, mK_i cl' (by exact p3) (fun x y z => ?_) (by rw [zsI_ne (by omega)]; unfold wFm; rw [zsI_ne (by omega), zsI_at]) (by rw [zsI_ne (by omega)]; exact zsI_at _ _ _ _)⟩
    · simp (disch := first | omega | simp only [qI2, qL2, qC2, qF2]) only [gX12_line_70, ↓mH hS, h24, p1', ↓bind_of p2, if_neg (show ¬ (5 : Int32) = 0 by decide), if_neg (show ¬ (5 : Int32) = 1 by decide), if_neg (show ¬ (5 : Int32) = 2 by decide), if_neg (show ¬ (5 : Int32) = 3 by decide), if_neg (show ¬ (5 : Int32) = 4 by decide), if_true, ↓mH hS4, ↓zb2_of fr', ↓mH hSW, ↓bind_of rq, d3]
    · unfold wFm
      rw [zsI_ne (by unfold mPq at z; omega), zsI_ne (by unfold mPq at z; omega), zsI_ne (by unfold mPq at z; omega)]
      exact p4 x y z
  rw [if_pos e1] at fr' ⊢
  have r1 : N1.2.2 = M.2.2 := f2.trans p3
  have hN1 : pMs S N1.2.2 := r1.symm ▸ hS
  have rq := rds N1 (nI (nxk T n 1 tk).2.1) r1
  have bF : mPp S (zsI N1 308 12 (nI (nxk T n 1 tk).2.1)) T n (nxk T n 2 tk) (adD E (nI (nxk T n 1 tk).2.1)) sl true ln := mPp_ad f4 (by omega) rfl rfl (mDr_D1 f4.2.2.1)
  obtain ⟨M9, z1, z2⟩ := m_358 bF o2 (M0 := M) r1 (fun x y z => by
    rw [zsI_ne (by unfold mPq at z; omega), f3 x y (by unfold mPq at z; unfold qTk; omega)]
    exact p4 x y z)
  refine ⟨M9, ?_, z2⟩
  simp (disch := first | omega | simp only [qI2, qL2, qC2, qF2]) only [gX12_line_70, ↓mH hS, h24, p1', ↓bind_of p2, if_neg (show ¬ (5 : Int32) = 0 by decide), if_neg (show ¬ (5 : Int32) = 1 by decide), if_neg (show ¬ (5 : Int32) = 2 by decide), if_neg (show ¬ (5 : Int32) = 3 by decide), if_neg (show ¬ (5 : Int32) = 4 by decide), if_true, ↓mH hS4, ↓zb2_of fr', ↓mH hN1, ↓bind_of rq]
  exact z1
theorem m_claims (h : mPp S M T n tk E sl sd ln) (hn : n ≤ 700) (ho : tkOk n 0 tk) (wE : wfE E) (hlim : eC E < 10) : ∃ M', gX12_line_70 S 306 2 M = some M' ∧ mKr S T n (ln + 1) M (finL T n (lnC T n tk E sl sd)) M' := by
  obtain ⟨hS, h24, h21, tsv⟩ := mPp_t h
  have o1 := nxk_ok (T := T) hn ho 1
  have o2 := nxk_ok (T := T) hn ho 2
  have o3 := nxk_ok (T := T) hn ho 3
  obtain ⟨v0, M4, p1, p2, p3, p4, p5⟩ := m_pre h ho (w := 2) (by omega)
  rw [if_neg (by omega), if_neg (by omega)] at p5
  have p1' : M.1 306 17 ||| ((1 : Int32) <<< (2 &&& 31)) = v0 := p1
  have hS4 : pMs S M4.2.2 := p3.symm ▸ hS
  have frs : ∀ M' : zM, M'.2.2 = M.2.2 → M'.1 308 9 = nI (eC E) → gX12_fresher S 306 2 M' = some (nI (eC E)) := fun M' r g => (m_frs (M := M') (k := 2) (r.symm ▸ hS) rfl (by omega)).trans (by rw [g])
  have rds : ∀ M' : zM, M'.2.2 = M.2.2 → gX12_reads S 306 2 (nI (eC E) + 1) M' = some (zsI M' 308 9 (nI (eC E + 1))) := fun M' r => by rw [nI_1]; exact m_rds (M := M') (k := 2) (r.symm ▸ hS) rfl (by omega)
  obtain ⟨N1, f1, f2, f3, f4⟩ := mPp_nx p5 o1
  obtain ⟨N1', f1', fr⟩ := m_trA p5 o1 wE
  have := tok_u f1 f1'
  subst this
  unfold lnC
  rw [if_neg (by omega)]
  unfold chk
  have cle := tr_le (tk := nxk T n 1 tk) (f := nmT E (nxk T n 1 tk))
  have fr' : gX12_tradeAhead S 306 M4 = some (if trF (nmT E (nxk T n 1 tk)) (nxk T n 1 tk) = 0 then (oI (nmT E (nxk T n 1 tk)), N1) else (0, wFm M4 (trF (nmT E (nxk T n 1 tk)) (nxk T n 1 tk)) (nxk T n 1 tk).2.2.1)) := fr
  have t2 := tr_2 (tk := nxk T n 1 tk) (f := nmT E (nxk T n 1 tk))
  have fin : ∀ (M5 : zM) (r : Option zM), gX12_claimLine S 306 M4 = some M5 → gX12_line_358 S 306 M5 = r → gX12_line_70 S 306 2 M = r := fun M5 r k1 k2 => by
    rw [← k2]
    simp (disch := first | omega | simp only [qI2, qL2, qC2, qF2]) only [gX12_line_70, ↓mH hS, h24, p1', ↓bind_of p2, if_neg (show ¬ (2 : Int32) = 0 by decide), if_neg (show ¬ (2 : Int32) = 1 by decide), if_true, ↓mH hS4, ↓bind_of k1]
  generalize hc1 : trF (nmT E (nxk T n 1 tk)) (nxk T n 1 tk) = q1 at fr' cle t2
  by_cases e1 : q1 = 0
  rotate_left
  · rw [if_neg e1] at fr' ⊢
    have cl' := cle e1
    have dd : ¬ (wFm M4 q1 (nxk T n 1 tk).2.2.1).1 306 24 = 0 := wFm_d cl'
    have hSW : pMs S (wFm M4 q1 (nxk T n 1 tk).2.2.1).2.2 := hS4
    have d3 := d_358 hSW dd
    have dn := d_numeral hSW dd 0 99
    refine ⟨wFm M4 q1 (nxk T n 1 tk).2.2.1, fin (wFm M4 q1 (nxk T n 1 tk).2.2.1) _ ?_ d3, mK_i cl' (by exact p3) (fun x y z => ?_) (by unfold wFm; rw [zsI_ne (by omega), zsI_at]) (by exact zsI_at _ _ _ _)⟩
    · simp (disch := first | omega | simp only [qI2, qL2, qC2, qF2]) only [gX12_claimLine, ↓mH hS4, ↓zb2_of fr', ↓mH hSW, if_neg dd, gX12_claimLine_50, ↓zb2_of dn]
    · unfold wFm
      rw [zsI_ne (by unfold mPq at z; omega), zsI_ne (by unfold mPq at z; omega)]
      exact p4 x y z
  rw [if_pos e1] at fr' ⊢
  obtain ⟨k2, j, hj⟩ := t2 e1
  rw [hj] at fr' ⊢
  have fr2 : gX12_tradeAhead S 306 M4 = some (nI j, N1) := fr'
  have r1 : N1.2.2 = M.2.2 := f2.trans p3
  have F1 : ∀ x y, ¬ mPq x y → N1.1 x y = M.1 x y := fun x y z => by
    rw [f3 x y (by unfold mPq at z; unfold qTk; omega)]
    exact p4 x y z
  have f4' : mPp S N1 T n (nxk T n 2 tk) E sl sd ln := f4
  obtain ⟨hN1, n24, n21, nsv⟩ := mPp_t f4'
  obtain ⟨N2, g1, g2, g3, g4⟩ := mPp_nx f4' o2
  obtain ⟨N2', g1', nu⟩ := m_num (lo := 0) (hi := 99) f4' o2 (by decide) (by decide)
  have := tok_u g1 g1'
  subst this
  have nu' : gX12_numeral S 306 0 99 N1 = some (if nbF 0 99 (nxk T n 2 tk) = 0 then (nI (nxk T n 2 tk).2.1, N2) else (0, wFm N1 (nbF 0 99 (nxk T n 2 tk)) (nxk T n 2 tk).2.2.1)) := nu
  have cle2 := nb_le (tk := nxk T n 2 tk) (lo := 0) (hi := 99)
  have n4 := nb_4 (tk := nxk T n 2 tk) (lo := 0) (hi := 99)
  have fault : ∀ c, (1 ≤ c ∧ c ≤ 4) → gX12_claimLine S 306 M4 = some (wFm N1 c (nxk T n 2 tk).2.2.1) → ∃ M', gX12_line_70 S 306 2 M = some M' ∧ mKr S T n (ln + 1) M (finL T n (.inl (c, (nxk T n 2 tk).2.2.1))) M' := by
    intro c hc hcl
    have hSW : pMs S (wFm N1 c (nxk T n 2 tk).2.2.1).2.2 := hN1
    refine ⟨wFm N1 c (nxk T n 2 tk).2.2.1, fin _ _ hcl (d_358 hSW (wFm_d hc)), mK_i hc (by exact r1) (fun x y z => ?_) (by unfold wFm; rw [zsI_ne (by omega), zsI_at]) (by exact zsI_at _ _ _ _)⟩
    unfold wFm
    rw [zsI_ne (by unfold mPq at z; omega), zsI_ne (by unfold mPq at z; omega)]
    exact F1 x y z
  by_cases c4 : (nxk T n 2 tk).1 = 4
  · obtain ⟨s2, m, v, n1, n2, n3⟩ := nsv.2.2.2.2.1 c4
    have li100' : (100 : Int32) = nI 100 := rfl
    by_cases v99 : (nxk T n 2 tk).2.1 ≤ 99
    · have mv : m = (nxk T n 2 tk).2.1 := n1 (by omega)
      subst mv
      have nb0 : nbF 0 99 (nxk T n 2 tk) = 0 := by unfold nbF; rw [if_pos c4, if_neg (Nat.not_lt_zero _), if_pos v99]
      rw [nb0, if_pos rfl] at nu'
      rw [nb0, if_pos rfl]
      have m100 : ¬ 100 ≤ (nxk T n 2 tk).2.1 := by omega
      have cv : N1.1 313 (100 + (nxk T n 2 tk).2.1) = oI (eCl E (nxk T n 2 tk).2.1) := f4'.2.2.1.2.2.2.1 _ (by omega)
      have rdv : ∀ (ρ : Type) (f : Int32 → Option ρ), zaI S N1 100 313 ((100 : Int32) + nI (nxk T n 2 tk).2.1) f = f (oI (eCl E (nxk T n 2 tk).2.1)) := fun ρ f => by
        rw [show (100 : Int32) + nI (nxk T n 2 tk).2.1 = nI (100 + (nxk T n 2 tk).2.1) from nI_add 100 _, zaI_ok (pMg hS 8 313 100 200 (by decide)).2 (by omega) (by decide), cv]
      cases o : eCl E (nxk T n 2 tk).2.1 with
      | some x =>
        have hx := (wE.2.2.2.2.2.2.2.2.2.2.1 _ _ o).1
        have hT6 := wE.1
        have nx : ¬ nI x = (-1 : Int32) := nI_m1ne (by omega)
        rw [o] at rdv
        have rdv' : ∀ (ρ : Type) (f : Int32 → Option ρ), zaI S N1 100 313 ((100 : Int32) + nI (nxk T n 2 tk).2.1) f = f (nI x) := rdv
        have w3 : gX12_wrong S 306 3 N1 = some (wFm N1 3 (nxk T n 2 tk).2.2.1) := m_wrg f4' 3
        have hSW : pMs S (wFm N1 3 (nxk T n 2 tk).2.2.1).2.2 := hN1
        have dd : ¬ (wFm N1 3 (nxk T n 2 tk).2.2.1).1 306 24 = 0 := wFm_d (by omega)
        have dn := d_numeral hSW dd 0 99
        refine fault 3 (by omega) ?_
        simp (disch := first | omega | simp only [qI2, qL2, qC2, qF2]) only [gX12_claimLine, ↓mH hS4, ↓zb2_of fr2, ↓mH hN1, n24, if_true, s2, v]
        rw [if_neg (show ¬ (100 : Int32) ≤ nI (nxk T n 2 tk).2.1 from fun e => m100 ((nI_leI (a := 100) (by decide) (by omega)).1 e))]
        simp (disch := first | omega | simp only [qI2, qL2, qC2, qF2]) only [rdv', if_neg nx, ↓bind_of w3, ↓mH hSW, gX12_claimLine_50, ↓zb2_of dn, if_neg dd]
      | none =>
        rw [o] at rdv
        have rdv' : ∀ (ρ : Type) (f : Int32 → Option ρ), zaI S N1 100 313 ((100 : Int32) + nI (nxk T n 2 tk).2.1) f = f (-1) := rdv
        have r2 : N2.2.2 = M.2.2 := g2.trans r1
        have hN2 : pMs S N2.2.2 := r2.symm ▸ hS
        have g4' : mPp S N2 T n (nxk T n 3 tk) E sl sd ln := g4
        have n242 := g4'.2.1.1
        have w313 : ∀ (ρ : Type) (M' : zM) (v : Int32) (f : zM → Option ρ), zbI S M' 313 ((100 : Int32) + nI (nxk T n 2 tk).2.1) v f = f (zsI M' 313 (100 + (nxk T n 2 tk).2.1) v) := fun ρ M' v f => wU (c := 100) (N := 200) (pMg hS 8 313 100 200 (by decide)).2 (by omega) (by decide) ρ M' v f
        have fq := frs (zsI N2 313 (100 + (nxk T n 2 tk).2.1) (nI j)) r2 (by rw [zsI_ne (by omega)]; exact g4'.2.2.1.1.2.2.1)
        have rq := rds (zsI N2 313 (100 + (nxk T n 2 tk).2.1) (nI j)) r2
        have bF : mPp S (zsI (zsI N2 313 (100 + (nxk T n 2 tk).2.1) (nI j)) 308 9 (nI (eC E + 1))) T n (nxk T n 3 tk) (adC E (nxk T n 2 tk).2.1 j) sl sd ln := by
          obtain ⟨⟨h0, t20, t21, tsv⟩, ⟨a1, a2, a3, a4, a5⟩, d, ⟨p, b1, b2, b3, b4⟩⟩ := id g4'
          have z : ∀ x y, ¬ (x = 308 ∧ y = 9) → ¬ (x = 313) → (zsI (zsI N2 313 (100 + (nxk T n 2 tk).2.1) (nI j)) 308 9 (nI (eC E + 1))).1 x y = N2.1 x y := fun x y h1 h2 => by rw [zsI_ne (by omega), zsI_ne (by omega)]
          exact ⟨⟨mTx_cg (fun a b q => z _ _ (by omega) (by omega)) h0, (z _ _ (by omega) (by omega)).trans t20, (z _ _ (by omega) (by omega)).trans t21, by rw [z _ _ (by omega) (by omega), z _ _ (by omega) (by omega)]; exact tsv⟩, ⟨(z _ _ (by omega) (by omega)).trans a1, (z _ _ (by omega) (by omega)).trans a2, (z _ _ (by omega) (by omega)).trans a3, (z _ _ (by omega) (by omega)).trans a4, (z _ _ (by omega) (by omega)).trans a5⟩, mDr_C1 (by omega) d, ⟨p, (z _ _ (by omega) (by omega)).trans b1, b2, b3, b4⟩⟩
        obtain ⟨M9, z1, z2⟩ := m_358 bF o3 (M0 := M) r2 (fun x y z => by
          rw [zsI_ne (by unfold mPq at z; omega), zsI_ne (by unfold mPq at z; omega), g3 x y (by unfold mPq at z; unfold qTk; omega)]
          exact F1 x y z)
        refine ⟨M9, fin (zsI (zsI N2 313 (100 + (nxk T n 2 tk).2.1) (nI j)) 308 9 (nI (eC E + 1))) _ ?_ z1, z2⟩
        simp (disch := first | omega | simp only [qI2, qL2, qC2, qF2]) only [gX12_claimLine, ↓mH hS4, ↓zb2_of fr2, ↓mH hN1, n24, if_true, s2, v]
        rw [if_neg (show ¬ (100 : Int32) ≤ nI (nxk T n 2 tk).2.1 from fun e => m100 ((nI_leI (a := 100) (by decide) (by omega)).1 e))]
        simp (disch := first | omega | simp only [qI2, qL2, qC2, qF2]) only [rdv', if_true, gX12_claimLine_50, ↓mH hN1, ↓zb2_of nu', ↓mH hN2, n242, ↓w313, ↓bind_of fq, ↓bind_of rq]
    · have m100 : (100 : Int32) ≤ nI m := by
        refine nI_le (a := 100) ?_ (by omega)
        rcases Nat.lt_or_ge 99999 (nxk T n 2 tk).2.1 with z | z
        · have := n2 z; omega
        · have := n1 z; omega
      have nb2 : nbF 0 99 (nxk T n 2 tk) = 2 := by unfold nbF; rw [if_pos c4, if_neg (Nat.not_lt_zero _), if_neg v99]
      rw [nb2, if_neg (by omega)] at nu'
      rw [nb2, if_neg (by omega)]
      have hSW : pMs S (wFm N1 2 (nxk T n 2 tk).2.2.1).2.2 := hN1
      have dd : ¬ (wFm N1 2 (nxk T n 2 tk).2.2.1).1 306 24 = 0 := wFm_d (by omega)
      refine fault 2 (by omega) ?_
      simp (disch := first | omega | simp only [qI2, qL2, qC2, qF2]) only [gX12_claimLine, ↓mH hS4, ↓zb2_of fr2, ↓mH hN1, n24, if_true, s2, v, if_pos m100, gX12_claimLine_50, ↓zb2_of nu', ↓mH hSW, if_neg dd]
  · have nb1 : nbF 0 99 (nxk T n 2 tk) = 1 := by unfold nbF; rw [if_neg c4]
    rw [nb1, if_neg (by omega)] at nu'
    rw [nb1, if_neg (by omega)]
    have hSW : pMs S (wFm N1 1 (nxk T n 2 tk).2.2.1).2.2 := hN1
    have dd : ¬ (wFm N1 1 (nxk T n 2 tk).2.2.1).1 306 24 = 0 := wFm_d (by omega)
    have ns2 : ¬ N1.1 306 22 = 2 := by
      obtain ⟨z0, z1, z2, z3, z4, z5, z6, z7, z8⟩ := nsv
      obtain ⟨⟨oo1, -⟩, -, o8, -⟩ := id o2
      rcases (show (nxk T n 2 tk).1 = 0 ∨ (nxk T n 2 tk).1 = 1 ∨ (nxk T n 2 tk).1 = 2 ∨ (nxk T n 2 tk).1 = 3 ∨ (nxk T n 2 tk).1 = 5 ∨ (nxk T n 2 tk).1 = 6 ∨ (nxk T n 2 tk).1 = 7 ∨ (nxk T n 2 tk).1 = 8 by omega) with e | e | e | e | e | e | e | e
      · rw [z0 e]; decide
      · rw [z1 e]; decide
      · rw [(z2 e).1]; decide
      · rw [(z3 e).1]; decide
      · rw [(z5 e).1]; decide
      · rw [(z6 e).1]; decide
      · rw [(z7 e).1]; decide
      · by_cases g : 6 ≤ (nxk T n 2 tk).2.1
        · rw [((z8 e).2 g).1]; decide
        · rw [((z8 e).1 (by omega)).1]; decide
    refine fault 1 (by omega) ?_
    simp (disch := first | omega | simp only [qI2, qL2, qC2, qF2]) only [gX12_claimLine, ↓mH hS4, ↓zb2_of fr2, ↓mH hN1, n24, if_true, if_neg ns2, gX12_claimLine_50, ↓zb2_of nu', ↓mH hSW, if_neg dd]
end ML
