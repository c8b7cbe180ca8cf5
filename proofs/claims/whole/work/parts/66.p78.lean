/-! pure part 78: lines: the model's trades and works -/
def mDd (E : zEn) (x y : Nat) : Prop := (309 ≤ x ∧ x ≤ 311 ∧ 6 + eT E ≤ y) ∨ (x = 312 ∧ 12 + eP E ≤ y) ∨ (314 ≤ x ∧ x ≤ 317 ∧ 5 + eW E ≤ y)
theorem mDr_cgE {I I' : Nat → Nat → Int32} {E : zEn} (h : ∀ x y, 308 ≤ x → x ≤ 321 → ¬ mDd E x y → I' x y = I x y) (hD : mDr I E) : mDr I' E := by
  obtain ⟨⟨a1, a2, a3, a4, a5, a6, a7⟩, b, c, d, e, f⟩ := hD
  have q : ∀ x y, 308 ≤ x → x ≤ 321 → ¬ ((309 ≤ x ∧ x ≤ 311 ∧ 6 + eT E ≤ y) ∨ (x = 312 ∧ 12 + eP E ≤ y) ∨ (314 ≤ x ∧ x ≤ 317 ∧ 5 + eW E ≤ y)) → I' x y = I x y := h
  exact ⟨⟨(q _ _ (by omega) (by omega) (by omega)).trans a1, (q _ _ (by omega) (by omega) (by omega)).trans a2, (q _ _ (by omega) (by omega) (by omega)).trans a3, (q _ _ (by omega) (by omega) (by omega)).trans a4, (q _ _ (by omega) (by omega) (by omega)).trans a5, (q _ _ (by omega) (by omega) (by omega)).trans a6, (q _ _ (by omega) (by omega) (by omega)).trans a7⟩, fun i hi => ⟨(q _ _ (by omega) (by omega) (by omega)).trans (b i hi).1, (q _ _ (by omega) (by omega) (by omega)).trans (b i hi).2.1, (q _ _ (by omega) (by omega) (by omega)).trans (b i hi).2.2⟩, fun i hi => (q _ _ (by omega) (by omega) (by omega)).trans (c i hi), fun i hi => (q _ _ (by omega) (by omega) (by omega)).trans (d i hi), fun i hi => ⟨(q _ _ (by omega) (by omega) (by omega)).trans (e i hi).1, (q _ _ (by omega) (by omega) (by omega)).trans (e i hi).2.1, (q _ _ (by omega) (by omega) (by omega)).trans (e i hi).2.2.1, (q _ _ (by omega) (by omega) (by omega)).trans (e i hi).2.2.2⟩, fun r hr => by
    obtain ⟨b, h1, h2, h3, h4⟩ := f r hr
    exact ⟨b, h1, (q _ _ (by omega) (by omega) (by omega)).trans h2, (q _ _ (by omega) (by omega) (by omega)).trans h3, lsM_cg (fun j _ _ => ⟨q _ _ (by omega) (by omega) (by omega), q _ _ (by omega) (by omega) (by omega)⟩) h4⟩⟩
theorem mD5_cg {I I' : Nat → Nat → Int32} {E : zEn} (h : ∀ x y, 318 ≤ x → x ≤ 321 → I' x y = I x y) (hD : mD5 I E) : mD5 I' E := fun r hr => by
  obtain ⟨b, h1, h2, h3, h4⟩ := hD r hr
  exact ⟨b, h1, (h _ _ (by omega) (by omega)).trans h2, (h _ _ (by omega) (by omega)).trans h3, lsM_cg (fun j _ _ => ⟨h _ _ (by omega) (by omega), h _ _ (by omega) (by omega)⟩) h4⟩
section ML
variable {S : List (Nat × Nat)} {M : zM} {T : Nat → Nat} {n : Nat} {tk : zTk} {E : zEn} {sl sd : Bool} {ln : Nat}
theorem mPp_dd {x y : Nat} {v : Int32} (h : mPp S M T n tk E sl sd ln) (hx : 309 ≤ x ∧ x ≤ 317) (hd : mDd E x y) : mPp S (zsI M x y v) T n tk E sl sd ln := mPp_ad h (by omega) rfl rfl (mDr_cgE (fun a b k1 k2 k3 => zsI_ne (by
  by_cases e1 : a = x
  · by_cases e2 : b = y
    · subst e1 e2; exact absurd hd k3
    · exact Or.inr e2
  · exact Or.inl e1)) h.2.2.1)
theorem mDr_T1 {nm : Int32} {h m : Nat} (hD : mDr M.1 E) (h2 : M.1 309 (6 + eT E) = nm) (h3 : M.1 310 (6 + eT E) = nI h) (h4 : M.1 311 (6 + eT E) = nI m) : mDr (zsI M 308 7 (nI (eT E + 1))).1 (adT E nm h m) := by
  obtain ⟨⟨a1, a2, a3, a4, a5, a6, a7⟩, b, c, d, e, f⟩ := hD
  refine ⟨⟨zsI_at _ _ _ _, (zsI_ne (by omega)).trans a2, (zsI_ne (by omega)).trans a3, (zsI_ne (by omega)).trans a4, (zsI_ne (by omega)).trans a5, (zsI_ne (by omega)).trans a6, (zsI_ne (by omega)).trans a7⟩, fun i hi => ?_, fun i hi => (zsI_ne (by omega)).trans (c i hi), fun i hi => (zsI_ne (by omega)).trans (d i hi), fun i hi => ⟨(zsI_ne (by omega)).trans (e i hi).1, (zsI_ne (by omega)).trans (e i hi).2.1, (zsI_ne (by omega)).trans (e i hi).2.2.1, (zsI_ne (by omega)).trans (e i hi).2.2.2⟩, mD5_cg (fun x y k1 k2 => zsI_ne (by omega)) f⟩
  rw [zsI_ne (by omega), zsI_ne (by omega), zsI_ne (by omega)]
  show M.1 309 (6 + i) = uqA (eTn E) (eT E) nm i ∧ M.1 310 (6 + i) = nI (uqA (eHr E) (eT E) h i) ∧ M.1 311 (6 + i) = nI (uqA (eMn E) (eT E) m i)
  have hi' : i < eT E + 1 := hi
  by_cases q : i = eT E
  · rw [q, uqA_i, uqA_i, uqA_i]; exact ⟨h2, h3, h4⟩
  · rw [uqA_n q, uqA_n q, uqA_n q]; exact b i (by omega)
theorem mDr_W1 {nm : Int32} {lo hi nd : Nat} (hD : mDr M.1 E) (h2 : M.1 314 (5 + eW E) = nm) (h3 : M.1 315 (5 + eW E) = nI lo) (h4 : M.1 316 (5 + eW E) = nI hi) (h5 : M.1 317 (5 + eW E) = nI nd) : mDr (zsI M 308 10 (nI (eW E + 1))).1 (adW E nm lo hi nd) := by
  obtain ⟨⟨a1, a2, a3, a4, a5, a6, a7⟩, b, c, d, e, f⟩ := hD
  refine ⟨⟨(zsI_ne (by omega)).trans a1, (zsI_ne (by omega)).trans a2, (zsI_ne (by omega)).trans a3, zsI_at _ _ _ _, (zsI_ne (by omega)).trans a5, (zsI_ne (by omega)).trans a6, (zsI_ne (by omega)).trans a7⟩, fun i hi => ⟨(zsI_ne (by omega)).trans (b i hi).1, (zsI_ne (by omega)).trans (b i hi).2.1, (zsI_ne (by omega)).trans (b i hi).2.2⟩, fun i hi => (zsI_ne (by omega)).trans (c i hi), fun i hi => (zsI_ne (by omega)).trans (d i hi), fun i hi => ?_, mD5_cg (fun x y k1 k2 => zsI_ne (by omega)) f⟩
  rw [zsI_ne (by omega), zsI_ne (by omega), zsI_ne (by omega), zsI_ne (by omega)]
  show M.1 314 (5 + i) = uqA (eWn E) (eW E) nm i ∧ M.1 315 (5 + i) = uqA (eLo E) (eW E) (nI lo) i ∧ M.1 316 (5 + i) = uqA (eHi E) (eW E) (nI _) i ∧ M.1 317 (5 + i) = nI (uqA (eNd E) (eW E) nd i)
  have hi' : i < eW E + 1 := hi
  by_cases q : i = eW E
  · rw [q, uqA_i, uqA_i, uqA_i, uqA_i]; exact ⟨h2, h3, h4, h5⟩
  · rw [uqA_n q, uqA_n q, uqA_n q, uqA_n q]; exact e i (by omega)
theorem m_pre (h : mPp S M T n tk E sl sd ln) (ho : tkOk n 0 tk) {w : Nat} (hw : w < 7) : ∃ (v : Int32) (M4 : zM), M.1 306 17 ||| ((1 : Int32) <<< (nI w &&& 31)) = v ∧ gX12_token S 306 (zsI M 306 17 v) = some M4 ∧ M4.2.2 = M.2.2 ∧ (∀ x y, ¬ mPq x y → M4.1 x y = M.1 x y) ∧ mPp S M4 T n (nxk T n 1 tk) E (if w = 4 then true else sl) (if w = 5 then true else sd) ln := by
  obtain ⟨⟨h0, t20, t21, tsv⟩, ⟨a1, a2, a3, a4, a5⟩, d, ⟨p, b1, b2, b3, b4⟩⟩ := h
  have or := or24u (p := p) (h := w) (by omega)
  rw [← b1] at or
  have hp : mPp S (zsI M 306 17 (nI (bs (upB p w) 24))) T n tk E (if w = 4 then true else sl) (if w = 5 then true else sd) ln := by
    refine ⟨⟨mTx_cg (fun a b q => zsI_ne (by omega)) h0, (zsI_ne (by omega)).trans t20, (zsI_ne (by omega)).trans t21, by rw [zsI_ne (by omega), zsI_ne (by omega)]; exact tsv⟩, ⟨(zsI_ne (by omega)).trans a1, (zsI_ne (by omega)).trans a2, (zsI_ne (by omega)).trans a3, (zsI_ne (by omega)).trans a4, (zsI_ne (by omega)).trans a5⟩, mDr_cg (fun x y q => zsI_ne (by unfold mLv at q; omega)) d, ⟨upB p w, zsI_at _ _ _ _, ?_, ?_, fun k hk => ?_⟩⟩
    · unfold upB
      by_cases e : w = 4
      · rw [if_pos e.symm, if_pos e]
      · rw [if_neg (fun q => e q.symm), if_neg e]; exact b2
    · unfold upB
      by_cases e : w = 5
      · rw [if_pos e.symm, if_pos e]
      · rw [if_neg (fun q => e q.symm), if_neg e]; exact b3
    · unfold upB
      rw [if_neg (by omega)]; exact b4 k hk
  obtain ⟨M4, e1, e2, e3, e4⟩ := mPp_nx hp ho
  exact ⟨_, M4, or, e1, e2, fun x y q => by rw [e3 x y (by unfold mPq at q; unfold qTk; omega), zsI_ne (by unfold mPq at q; omega)], e4⟩
theorem mK_i {M0 M' : zM} {f p l : Nat} (h0 : 1 ≤ f ∧ f ≤ 4) (h1 : M'.2.2 = M0.2.2) (h2 : ∀ x y, ¬ mPq x y → M'.1 x y = M0.1 x y) (h3 : M'.1 306 24 = nI f) (h4 : M'.1 306 25 = nI p) : mKr S T n l M0 (.inl (f, p)) M' := ⟨h1, h2, fun f' p' e => by cases e; exact ⟨h0, h3, h4⟩, fun tk E sl sd e => by cases e⟩
theorem nw_le {f : Option Nat} (h : ¬ nwF f tk = 0) : 1 ≤ nwF f tk ∧ nwF f tk ≤ 4 := by
  unfold nwF at h ⊢
  by_cases z : tk.1 = 2
  · rw [if_pos z] at h ⊢
    cases f with
    | none => exact absurd rfl h
    | some j => show (1 : Nat) ≤ 3 ∧ (3 : Nat) ≤ 4; decide
  · rw [if_neg z]; exact ⟨by omega, by omega⟩
theorem tr_le {f : Option Nat} (h : ¬ trF f tk = 0) : 1 ≤ trF f tk ∧ trF f tk ≤ 4 := by
  unfold trF at h ⊢
  by_cases z : tk.1 = 2
  · rw [if_pos z] at h ⊢
    cases f with
    | none => show (1 : Nat) ≤ 4 ∧ (4 : Nat) ≤ 4; decide
    | some j => exact absurd rfl h
  · rw [if_neg z]; exact ⟨by omega, by omega⟩
theorem nb_le {lo hi : Nat} (h : ¬ nbF lo hi tk = 0) : 1 ≤ nbF lo hi tk ∧ nbF lo hi tk ≤ 4 := by
  unfold nbF at h ⊢
  by_cases z : tk.1 = 4
  · rw [if_pos z] at h ⊢
    by_cases y : tk.2.1 < lo
    · rw [if_pos y]; exact ⟨by omega, by omega⟩
    · rw [if_neg y] at h ⊢
      by_cases x : tk.2.1 ≤ hi
      · rw [if_pos x] at h; exact absurd rfl h
      · rw [if_neg x]; exact ⟨by omega, by omega⟩
  · rw [if_neg z]; exact ⟨by omega, by omega⟩
theorem tok_u {M1 M2 : zM} (h1 : gX12_token S 306 M = some M1) (h2 : gX12_token S 306 M = some M2) : M1 = M2 := by
  rw [h1] at h2
  injection h2
theorem m_trades (h : mPp S M T n tk E sl sd ln) (hn : n ≤ 700) (ho : tkOk n 0 tk) (wE : wfE E) (hlim : eT E < 6) : ∃ M', gX12_line_70 S 306 0 M = some M' ∧ mKr S T n (ln + 1) M (finL T n (lnT T n tk E sl sd)) M' := by
  obtain ⟨hS, h24, h21, tsv⟩ := mPp_t h
  have o1 := nxk_ok (T := T) hn ho 1
  have o2 := nxk_ok (T := T) hn ho 2
  have o3 := nxk_ok (T := T) hn ho 3
  have o4 := nxk_ok (T := T) hn ho 4
  have o5 := nxk_ok (T := T) hn ho 5
  obtain ⟨v0, M4, p1, p2, p3, p4, p5⟩ := m_pre h ho (w := 0) (by omega)
  rw [if_neg (by omega), if_neg (by omega)] at p5
  have p1' : M.1 306 17 ||| ((1 : Int32) <<< (0 &&& 31)) = v0 := p1
  have hS4 : pMs S M4.2.2 := p3.symm ▸ hS
  have g4 : M4.1 308 7 = nI (eT E) := p5.2.2.1.1.1
  have fr4 : gX12_fresher S 306 0 M4 = some (nI (eT E)) := (m_frs (k := 0) hS4 rfl (by omega)).trans (by rw [g4])
  have w309 : ∀ (ρ : Type) (M' : zM) (v : Int32) (f : zM → Option ρ), zbI S M' 309 ((6 : Int32) + nI (eT E)) v f = f (zsI M' 309 (6 + eT E) v) := fun ρ M' v f => wU (c := 6) (N := 12) (pMg hS 4 309 100 12 (by decide)).2 (by omega) (by decide) ρ M' v f
  have w310 : ∀ (ρ : Type) (M' : zM) (v : Int32) (f : zM → Option ρ), zbI S M' 310 ((6 : Int32) + nI (eT E)) v f = f (zsI M' 310 (6 + eT E) v) := fun ρ M' v f => wU (c := 6) (N := 12) (pMg hS 5 310 100 12 (by decide)).2 (by omega) (by decide) ρ M' v f
  have w311 : ∀ (ρ : Type) (M' : zM) (v : Int32) (f : zM → Option ρ), zbI S M' 311 ((6 : Int32) + nI (eT E)) v f = f (zsI M' 311 (6 + eT E) v) := fun ρ M' v f => wU (c := 6) (N := 12) (pMg hS 6 311 100 12 (by decide)).2 (by omega) (by decide) ρ M' v f
  have frs : ∀ M' : zM, M'.2.2 = M.2.2 → M'.1 308 7 = nI (eT E) → gX12_fresher S 306 0 M' = some (nI (eT E)) := fun M' r g => (m_frs (M := M') (k := 0) (r.symm ▸ hS) rfl (by omega)).trans (by rw [g])
  have rds : ∀ M' : zM, M'.2.2 = M.2.2 → gX12_reads S 306 0 (nI (eT E) + 1) M' = some (zsI M' 308 7 (nI (eT E + 1))) := fun M' r => by rw [nI_1]; exact m_rds (M := M') (k := 0) (r.symm ▸ hS) rfl (by omega)
  obtain ⟨N1, f1, f2, f3, f4⟩ := mPp_nx p5 o1
  obtain ⟨N1', f1', fr⟩ := m_fresh (q := 309) (N := 12) (c := 6) (k := eT E) (f := eTn E) (x := 6) p5 o1 (pMg hS 4 309 100 12 (by decide)).2 (by decide) (by omega) rfl (fun i hi => (p5.2.2.1.2.1 i hi).1)
  have := tok_u f1 f1'
  subst this
  unfold lnT
  rw [if_neg (by omega)]
  unfold chk
  have fr' : gX12_fresh S 306 309 6 (nI (eT E)) M4 = some (if nwF (nmT E (nxk T n 1 tk)) (nxk T n 1 tk) = 0 then (nI (nxk T n 1 tk).2.1, N1) else (0, wFm M4 (nwF (nmT E (nxk T n 1 tk)) (nxk T n 1 tk)) (nxk T n 1 tk).2.2.1)) := fr
  have cle := nw_le (tk := nxk T n 1 tk) (f := nmT E (nxk T n 1 tk))
  generalize hc1 : nwF (nmT E (nxk T n 1 tk)) (nxk T n 1 tk) = q1 at fr' cle
  by_cases e1 : q1 = 0
  rotate_left
  · rw [if_neg e1] at fr' ⊢
    have cl' : 1 ≤ q1 ∧ q1 ≤ 4 := cle e1
    have dn0 := d_numeral (S := S) (M := (zsI (wFm M4 q1 (nxk T n 1 tk).2.2.1) 309 (6 + eT E) 0)) (by exact hS4) (by rw [zsI_ne (by omega)]; exact wFm_d cl') 0 23
    have dn1 := d_numeral (S := S) (M := (zsI (zsI (wFm M4 q1 (nxk T n 1 tk).2.2.1) 309 (6 + eT E) 0) 310 (6 + eT E) 0)) (by exact hS4) (by rw [zsI_ne (by omega), zsI_ne (by omega)]; exact wFm_d cl') 0 9
    have hSW : pMs S (wFm M4 q1 (nxk T n 1 tk).2.2.1).2.2 := hS4
    have gq : (zsI (zsI (zsI (wFm M4 q1 (nxk T n 1 tk).2.2.1) 309 (6 + eT E) 0) 310 (6 + eT E) 0) 311 (6 + eT E) 0).1 308 7 = nI (eT E) := by rw [zsI_ne (by omega), zsI_ne (by omega), zsI_ne (by omega)]; unfold wFm; rw [zsI_ne (by omega), zsI_ne (by omega)]; exact g4
    have fq := frs (zsI (zsI (zsI (wFm M4 q1 (nxk T n 1 tk).2.2.1) 309 (6 + eT E) 0) 310 (6 + eT E) 0) 311 (6 + eT E) 0) (by exact p3) gq
    have rq := rds (zsI (zsI (zsI (wFm M4 q1 (nxk T n 1 tk).2.2.1) 309 (6 + eT E) 0) 310 (6 + eT E) 0) 311 (6 + eT E) 0) (by exact p3)
    have dd : ¬ (zsI (zsI (zsI (zsI (wFm M4 q1 (nxk T n 1 tk).2.2.1) 309 (6 + eT E) 0) 310 (6 + eT E) 0) 311 (6 + eT E) 0) 308 7 (nI (eT E + 1))).1 306 24 = 0 := by rw [zsI_ne (by omega)]; rw [zsI_ne (by omega), zsI_ne (by omega), zsI_ne (by omega)]; exact wFm_d cl'
    have d3 := d_358 (S := S) (M := (zsI (zsI (zsI (zsI (wFm M4 q1 (nxk T n 1 tk).2.2.1) 309 (6 + eT E) 0) 310 (6 + eT E) 0) 311 (6 + eT E) 0) 308 7 (nI (eT E + 1)))) (by exact hS4) dd
    refine ⟨(zsI (zsI (zsI (zsI (wFm M4 q1 (nxk T n 1 tk).2.2.1) 309 (6 + eT E) 0) 310 (6 + eT E) 0) 311 (6 + eT E) 0) 308 7 (nI (eT E + 1))), ?_, mK_i cl' (by exact p3) (fun x y z => ?_) (by rw [zsI_ne (by omega)]; rw [zsI_ne (by omega), zsI_ne (by omega), zsI_ne (by omega)]; unfold wFm; rw [zsI_ne (by omega), zsI_at]) (by rw [zsI_ne (by omega)]; rw [zsI_ne (by omega), zsI_ne (by omega), zsI_ne (by omega)]; exact zsI_at _ _ _ _)⟩
    · simp (disch := first | omega | simp only [qI2, qL2, qC2, qF2]) only [gX12_line_70, ↓mH hS, h24, p1', ↓bind_of p2, if_true, ↓bind_of fr4, ↓mH hS4, ↓zb2_of fr', ↓w309, ↓mH hSW, ↓zb2_of dn0, ↓w310, ↓zb2_of dn1, ↓w311, ↓bind_of fq, ↓bind_of rq, d3]
    · rw [zsI_ne (by unfold mPq at z; omega)]
      rw [zsI_ne (by unfold mPq at z; omega), zsI_ne (by unfold mPq at z; omega), zsI_ne (by unfold mPq at z; omega)]
      unfold wFm
      rw [zsI_ne (by unfold mPq at z; omega), zsI_ne (by unfold mPq at z; omega)]
      exact p4 x y z
  rw [if_pos e1] at fr' ⊢
  have r1 : (zsI N1 309 (6 + eT E) (nI (nxk T n 1 tk).2.1)).2.2 = M.2.2 := f2.trans p3
  have F1 : ∀ x y, ¬ mPq x y → (zsI N1 309 (6 + eT E) (nI (nxk T n 1 tk).2.1)).1 x y = M.1 x y := fun x y z => by
    rw [zsI_ne (by unfold mPq at z; omega), f3 x y (by unfold mPq at z; unfold qTk; omega)]
    exact p4 x y z
  have b1 := mPp_dd (x := 309) (y := 6 + eT E) (v := nI (nxk T n 1 tk).2.1) f4 (by omega) (by unfold mDd; omega)
  have g1x : (zsI N1 309 (6 + eT E) (nI (nxk T n 1 tk).2.1)).1 308 7 = nI (eT E) := b1.2.2.1.1.1
  have hN1 : pMs S N1.2.2 := by rw [show N1.2.2 = M.2.2 from r1]; exact hS
  have hM1 : pMs S (zsI N1 309 (6 + eT E) (nI (nxk T n 1 tk).2.1)).2.2 := hN1
  obtain ⟨N2, f21, f22, f23, f24⟩ := mPp_nx b1 o2
  obtain ⟨N2', f21', nu2⟩ := m_num (lo := 0) (hi := 23) b1 o2 (by decide) (by decide)
  have := tok_u f21 f21'
  subst this
  have nu2' : gX12_numeral S 306 0 23 (zsI N1 309 (6 + eT E) (nI (nxk T n 1 tk).2.1)) = some (if nbF 0 23 (nxk T n 2 tk) = 0 then (nI (nxk T n 2 tk).2.1, N2) else (nI 0, wFm (zsI N1 309 (6 + eT E) (nI (nxk T n 1 tk).2.1)) (nbF 0 23 (nxk T n 2 tk)) (nxk T n 2 tk).2.2.1)) := nu2
  have cle := nb_le (tk := (nxk T n 2 tk)) (lo := 0) (hi := 23)
  generalize hc2 : nbF 0 23 (nxk T n 2 tk) = q2 at nu2' cle
  by_cases e2 : q2 = 0
  rotate_left
  · rw [if_neg e2] at nu2' ⊢
    have cl' : 1 ≤ q2 ∧ q2 ≤ 4 := cle e2
    have dn0 := d_numeral (S := S) (M := (zsI (wFm (zsI N1 309 (6 + eT E) (nI (nxk T n 1 tk).2.1)) q2 (nxk T n 2 tk).2.2.1) 310 (6 + eT E) (nI 0))) (by exact hM1) (by rw [zsI_ne (by omega)]; exact wFm_d cl') 0 9
    have hSW : pMs S (wFm (zsI N1 309 (6 + eT E) (nI (nxk T n 1 tk).2.1)) q2 (nxk T n 2 tk).2.2.1).2.2 := hM1
    have gq : (zsI (zsI (wFm (zsI N1 309 (6 + eT E) (nI (nxk T n 1 tk).2.1)) q2 (nxk T n 2 tk).2.2.1) 310 (6 + eT E) (nI 0)) 311 (6 + eT E) 0).1 308 7 = nI (eT E) := by rw [zsI_ne (by omega), zsI_ne (by omega)]; unfold wFm; rw [zsI_ne (by omega), zsI_ne (by omega)]; exact g1x
    have fq := frs (zsI (zsI (wFm (zsI N1 309 (6 + eT E) (nI (nxk T n 1 tk).2.1)) q2 (nxk T n 2 tk).2.2.1) 310 (6 + eT E) (nI 0)) 311 (6 + eT E) 0) (by exact r1) gq
    have rq := rds (zsI (zsI (wFm (zsI N1 309 (6 + eT E) (nI (nxk T n 1 tk).2.1)) q2 (nxk T n 2 tk).2.2.1) 310 (6 + eT E) (nI 0)) 311 (6 + eT E) 0) (by exact r1)
    have dd : ¬ (zsI (zsI (zsI (wFm (zsI N1 309 (6 + eT E) (nI (nxk T n 1 tk).2.1)) q2 (nxk T n 2 tk).2.2.1) 310 (6 + eT E) (nI 0)) 311 (6 + eT E) 0) 308 7 (nI (eT E + 1))).1 306 24 = 0 := by rw [zsI_ne (by omega)]; rw [zsI_ne (by omega), zsI_ne (by omega)]; exact wFm_d cl'
    have d3 := d_358 (S := S) (M := (zsI (zsI (zsI (wFm (zsI N1 309 (6 + eT E) (nI (nxk T n 1 tk).2.1)) q2 (nxk T n 2 tk).2.2.1) 310 (6 + eT E) (nI 0)) 311 (6 + eT E) 0) 308 7 (nI (eT E + 1)))) (by exact hM1) dd
    refine ⟨(zsI (zsI (zsI (wFm (zsI N1 309 (6 + eT E) (nI (nxk T n 1 tk).2.1)) q2 (nxk T n 2 tk).2.2.1) 310 (6 + eT E) (nI 0)) 311 (6 + eT E) 0) 308 7 (nI (eT E + 1))), ?_, mK_i cl' (by exact r1) (fun x y z => ?_) (by rw [zsI_ne (by omega)]; rw [zsI_ne (by omega), zsI_ne (by omega)]; unfold wFm; rw [zsI_ne (by omega), zsI_at]) (by rw [zsI_ne (by omega)]; rw [zsI_ne (by omega), zsI_ne (by omega)]; exact zsI_at _ _ _ _)⟩
    · simp (disch := first | omega | simp only [qI2, qL2, qC2, qF2]) only [gX12_line_70, ↓mH hS, h24, p1', ↓bind_of p2, if_true, ↓bind_of fr4, ↓mH hS4, ↓zb2_of fr', ↓w309, ↓mH hN1, ↓zb2_of nu2', ↓w310, ↓mH hSW, ↓zb2_of dn0, ↓w311, ↓bind_of fq, ↓bind_of rq, d3]
    · rw [zsI_ne (by unfold mPq at z; omega)]
      rw [zsI_ne (by unfold mPq at z; omega), zsI_ne (by unfold mPq at z; omega)]
      unfold wFm
      rw [zsI_ne (by unfold mPq at z; omega), zsI_ne (by unfold mPq at z; omega)]
      exact F1 x y z
  rw [if_pos e2] at nu2' ⊢
  have r2 : (zsI N2 310 (6 + eT E) (nI (nxk T n 2 tk).2.1)).2.2 = M.2.2 := f22.trans r1
  have F2 : ∀ x y, ¬ mPq x y → (zsI N2 310 (6 + eT E) (nI (nxk T n 2 tk).2.1)).1 x y = M.1 x y := fun x y z => by
    rw [zsI_ne (by unfold mPq at z; omega), f23 x y (by unfold mPq at z; unfold qTk; omega)]
    exact F1 x y z
  have b2 := mPp_dd (x := 310) (y := 6 + eT E) (v := nI (nxk T n 2 tk).2.1) f24 (by omega) (by unfold mDd; omega)
  have g2x : (zsI N2 310 (6 + eT E) (nI (nxk T n 2 tk).2.1)).1 308 7 = nI (eT E) := b2.2.2.1.1.1
  have hN2 : pMs S N2.2.2 := by rw [show N2.2.2 = M.2.2 from r2]; exact hS
  have hM2 : pMs S (zsI N2 310 (6 + eT E) (nI (nxk T n 2 tk).2.1)).2.2 := hN2
  have k42 := nb_4 (by rw [hc2]; exact e2)
  obtain ⟨N3, f31, f32, f33, f34⟩ := mPp_nx b2 o3
  obtain ⟨N3', f31', nu3⟩ := m_num (lo := 0) (hi := 9) b2 o3 (by decide) (by decide)
  have := tok_u f31 f31'
  subst this
  have nu3' : gX12_numeral S 306 0 9 (zsI N2 310 (6 + eT E) (nI (nxk T n 2 tk).2.1)) = some (if nbF 0 9 (nxk T n 3 tk) = 0 then (nI (nxk T n 3 tk).2.1, N3) else (nI 0, wFm (zsI N2 310 (6 + eT E) (nI (nxk T n 2 tk).2.1)) (nbF 0 9 (nxk T n 3 tk)) (nxk T n 3 tk).2.2.1)) := nu3
  have cle := nb_le (tk := (nxk T n 3 tk)) (lo := 0) (hi := 9)
  generalize hc3 : nbF 0 9 (nxk T n 3 tk) = q3 at nu3' cle
  by_cases e3 : q3 = 0
  rotate_left
  · rw [if_neg e3] at nu3' ⊢
    have cl' : 1 ≤ q3 ∧ q3 ≤ 4 := cle e3
    have hSW : pMs S (wFm (zsI N2 310 (6 + eT E) (nI (nxk T n 2 tk).2.1)) q3 (nxk T n 3 tk).2.2.1).2.2 := hM2
    have gq : (zsI (wFm (zsI N2 310 (6 + eT E) (nI (nxk T n 2 tk).2.1)) q3 (nxk T n 3 tk).2.2.1) 311 (6 + eT E) (nI 0)).1 308 7 = nI (eT E) := by rw [zsI_ne (by omega)]; unfold wFm; rw [zsI_ne (by omega), zsI_ne (by omega)]; exact g2x
    have fq := frs (zsI (wFm (zsI N2 310 (6 + eT E) (nI (nxk T n 2 tk).2.1)) q3 (nxk T n 3 tk).2.2.1) 311 (6 + eT E) (nI 0)) (by exact r2) gq
    have rq := rds (zsI (wFm (zsI N2 310 (6 + eT E) (nI (nxk T n 2 tk).2.1)) q3 (nxk T n 3 tk).2.2.1) 311 (6 + eT E) (nI 0)) (by exact r2)
    have dd : ¬ (zsI (zsI (wFm (zsI N2 310 (6 + eT E) (nI (nxk T n 2 tk).2.1)) q3 (nxk T n 3 tk).2.2.1) 311 (6 + eT E) (nI 0)) 308 7 (nI (eT E + 1))).1 306 24 = 0 := by rw [zsI_ne (by omega)]; rw [zsI_ne (by omega)]; exact wFm_d cl'
    have d3 := d_358 (S := S) (M := (zsI (zsI (wFm (zsI N2 310 (6 + eT E) (nI (nxk T n 2 tk).2.1)) q3 (nxk T n 3 tk).2.2.1) 311 (6 + eT E) (nI 0)) 308 7 (nI (eT E + 1)))) (by exact hM2) dd
    refine ⟨(zsI (zsI (wFm (zsI N2 310 (6 + eT E) (nI (nxk T n 2 tk).2.1)) q3 (nxk T n 3 tk).2.2.1) 311 (6 + eT E) (nI 0)) 308 7 (nI (eT E + 1))), ?_, mK_i cl' (by exact r2) (fun x y z => ?_) (by rw [zsI_ne (by omega)]; rw [zsI_ne (by omega)]; unfold wFm; rw [zsI_ne (by omega), zsI_at]) (by rw [zsI_ne (by omega)]; rw [zsI_ne (by omega)]; exact zsI_at _ _ _ _)⟩
    · simp (disch := first | omega | simp only [qI2, qL2, qC2, qF2]) only [gX12_line_70, ↓mH hS, h24, p1', ↓bind_of p2, if_true, ↓bind_of fr4, ↓mH hS4, ↓zb2_of fr', ↓w309, ↓mH hN1, ↓zb2_of nu2', ↓w310, ↓mH hN2, ↓zb2_of nu3', ↓w311, ↓mH hSW, ↓bind_of fq, ↓bind_of rq, d3]
    · rw [zsI_ne (by unfold mPq at z; omega)]
      rw [zsI_ne (by unfold mPq at z; omega)]
      unfold wFm
      rw [zsI_ne (by unfold mPq at z; omega), zsI_ne (by unfold mPq at z; omega)]
      exact F2 x y z
  rw [if_pos e3] at nu3' ⊢
  have r3 : (zsI N3 311 (6 + eT E) (nI (nxk T n 3 tk).2.1)).2.2 = M.2.2 := f32.trans r2
  have F3 : ∀ x y, ¬ mPq x y → (zsI N3 311 (6 + eT E) (nI (nxk T n 3 tk).2.1)).1 x y = M.1 x y := fun x y z => by
    rw [zsI_ne (by unfold mPq at z; omega), f33 x y (by unfold mPq at z; unfold qTk; omega)]
    exact F2 x y z
  have b3 := mPp_dd (x := 311) (y := 6 + eT E) (v := nI (nxk T n 3 tk).2.1) f34 (by omega) (by unfold mDd; omega)
  have g3x : (zsI N3 311 (6 + eT E) (nI (nxk T n 3 tk).2.1)).1 308 7 = nI (eT E) := b3.2.2.1.1.1
  have hN3 : pMs S N3.2.2 := by rw [show N3.2.2 = M.2.2 from r3]; exact hS
  have hM3 : pMs S (zsI N3 311 (6 + eT E) (nI (nxk T n 3 tk).2.1)).2.2 := hN3
  have k43 := nb_4 (by rw [hc3]; exact e3)
  have fq := frs (zsI N3 311 (6 + eT E) (nI (nxk T n 3 tk).2.1)) r3 g3x
  have rq := rds (zsI N3 311 (6 + eT E) (nI (nxk T n 3 tk).2.1)) r3
  have hv0 : (zsI N3 311 (6 + eT E) (nI (nxk T n 3 tk).2.1)).1 309 (6 + eT E) = nI (nxk T n 1 tk).2.1 := by rw [zsI_ne (by omega), f33 _ _ (by unfold qTk; omega), zsI_ne (by omega), f23 _ _ (by unfold qTk; omega), zsI_at]
  have hv1 : (zsI N3 311 (6 + eT E) (nI (nxk T n 3 tk).2.1)).1 310 (6 + eT E) = nI (nxk T n 2 tk).2.1 := by rw [zsI_ne (by omega), f33 _ _ (by unfold qTk; omega), zsI_at]
  have hv2 : (zsI N3 311 (6 + eT E) (nI (nxk T n 3 tk).2.1)).1 311 (6 + eT E) = nI (nxk T n 3 tk).2.1 := by rw [zsI_at]
  have bF : mPp S (zsI (zsI N3 311 (6 + eT E) (nI (nxk T n 3 tk).2.1)) 308 7 (nI (eT E + 1))) T n (nxk T n 4 tk) (adT E (nI (nxk T n 1 tk).2.1) (nxk T n 2 tk).2.1 (nxk T n 3 tk).2.1) sl sd ln := mPp_ad b3 (by omega) rfl rfl (mDr_T1 b3.2.2.1 hv0 hv1 hv2)
  obtain ⟨M9, z1, z2⟩ := m_358 bF o4 (M0 := M) r3 (fun x y z => by rw [zsI_ne (by unfold mPq at z; omega)]; exact F3 x y z)
  refine ⟨M9, ?_, z2⟩
  simp (disch := first | omega | simp only [qI2, qL2, qC2, qF2]) only [gX12_line_70, ↓mH hS, h24, p1', ↓bind_of p2, if_true, ↓bind_of fr4, ↓mH hS4, ↓zb2_of fr', ↓w309, ↓mH hN1, ↓zb2_of nu2', ↓w310, ↓mH hN2, ↓zb2_of nu3', ↓w311, ↓mH hN3, ↓bind_of fq, ↓bind_of rq]
  exact z1
theorem m_works (h : mPp S M T n tk E sl sd ln) (hn : n ≤ 700) (ho : tkOk n 0 tk) (wE : wfE E) (hlim : eW E < 5) : ∃ M', gX12_line_70 S 306 3 M = some M' ∧ mKr S T n (ln + 1) M (finL T n (lnW T n tk E sl sd)) M' := by
  obtain ⟨hS, h24, h21, tsv⟩ := mPp_t h
  have o1 := nxk_ok (T := T) hn ho 1
  have o2 := nxk_ok (T := T) hn ho 2
  have o3 := nxk_ok (T := T) hn ho 3
  have o4 := nxk_ok (T := T) hn ho 4
  have o5 := nxk_ok (T := T) hn ho 5
  obtain ⟨v0, M4, p1, p2, p3, p4, p5⟩ := m_pre h ho (w := 3) (by omega)
  rw [if_neg (by omega), if_neg (by omega)] at p5
  have p1' : M.1 306 17 ||| ((1 : Int32) <<< (3 &&& 31)) = v0 := p1
  have hS4 : pMs S M4.2.2 := p3.symm ▸ hS
  have g4 : M4.1 308 10 = nI (eW E) := p5.2.2.1.1.2.2.2.1
  have fr4 : gX12_fresher S 306 3 M4 = some (nI (eW E)) := (m_frs (k := 3) hS4 rfl (by omega)).trans (by rw [g4])
  have w314 : ∀ (ρ : Type) (M' : zM) (v : Int32) (f : zM → Option ρ), zbI S M' 314 ((5 : Int32) + nI (eW E)) v f = f (zsI M' 314 (5 + eW E) v) := fun ρ M' v f => wU (c := 5) (N := 10) (pMg hS 9 314 100 10 (by decide)).2 (by omega) (by decide) ρ M' v f
  have w315 : ∀ (ρ : Type) (M' : zM) (v : Int32) (f : zM → Option ρ), zbI S M' 315 ((5 : Int32) + nI (eW E)) v f = f (zsI M' 315 (5 + eW E) v) := fun ρ M' v f => wU (c := 5) (N := 10) (pMg hS 10 315 100 10 (by decide)).2 (by omega) (by decide) ρ M' v f
  have w316 : ∀ (ρ : Type) (M' : zM) (v : Int32) (f : zM → Option ρ), zbI S M' 316 ((5 : Int32) + nI (eW E)) v f = f (zsI M' 316 (5 + eW E) v) := fun ρ M' v f => wU (c := 5) (N := 10) (pMg hS 11 316 100 10 (by decide)).2 (by omega) (by decide) ρ M' v f
  have w317 : ∀ (ρ : Type) (M' : zM) (v : Int32) (f : zM → Option ρ), zbI S M' 317 ((5 : Int32) + nI (eW E)) v f = f (zsI M' 317 (5 + eW E) v) := fun ρ M' v f => wU (c := 5) (N := 10) (pMg hS 12 317 100 10 (by decide)).2 (by omega) (by decide) ρ M' v f
  have frs : ∀ M' : zM, M'.2.2 = M.2.2 → M'.1 308 10 = nI (eW E) → gX12_fresher S 306 3 M' = some (nI (eW E)) := fun M' r g => (m_frs (M := M') (k := 3) (r.symm ▸ hS) rfl (by omega)).trans (by rw [g])
  have rds : ∀ M' : zM, M'.2.2 = M.2.2 → gX12_reads S 306 3 (nI (eW E) + 1) M' = some (zsI M' 308 10 (nI (eW E + 1))) := fun M' r => by rw [nI_1]; exact m_rds (M := M') (k := 3) (r.symm ▸ hS) rfl (by omega)
  obtain ⟨N1, f1, f2, f3, f4⟩ := mPp_nx p5 o1
  obtain ⟨N1', f1', fr⟩ := m_fresh (q := 314) (N := 10) (c := 5) (k := eW E) (f := eWn E) (x := 5) p5 o1 (pMg hS 9 314 100 10 (by decide)).2 (by decide) (by omega) rfl (fun i hi => (p5.2.2.1.2.2.2.2.1 i hi).1)
  have := tok_u f1 f1'
  subst this
  unfold lnW
  rw [if_neg (by omega)]
  unfold chk
  have fr' : gX12_fresh S 306 314 5 (nI (eW E)) M4 = some (if nwF (nmW E (nxk T n 1 tk)) (nxk T n 1 tk) = 0 then (nI (nxk T n 1 tk).2.1, N1) else (0, wFm M4 (nwF (nmW E (nxk T n 1 tk)) (nxk T n 1 tk)) (nxk T n 1 tk).2.2.1)) := fr
  have cle := nw_le (tk := nxk T n 1 tk) (f := nmW E (nxk T n 1 tk))
  generalize hc1 : nwF (nmW E (nxk T n 1 tk)) (nxk T n 1 tk) = q1 at fr' cle
  by_cases e1 : q1 = 0
  rotate_left
  · rw [if_neg e1] at fr' ⊢
    have cl' : 1 ≤ q1 ∧ q1 ≤ 4 := cle e1
    have dn0 := d_numeral (S := S) (M := (zsI (wFm M4 q1 (nxk T n 1 tk).2.2.1) 314 (5 + eW E) 0)) (by exact hS4) (by rw [zsI_ne (by omega)]; exact wFm_d cl') 0 24
    have dn1 := d_numeral (S := S) (M := (zsI (zsI (wFm M4 q1 (nxk T n 1 tk).2.2.1) 314 (5 + eW E) 0) 315 (5 + eW E) 0)) (by exact hS4) (by rw [zsI_ne (by omega), zsI_ne (by omega)]; exact wFm_d cl') 0 24
    have dn2 := d_numeral (S := S) (M := (zsI (zsI (zsI (wFm M4 q1 (nxk T n 1 tk).2.2.1) 314 (5 + eW E) 0) 315 (5 + eW E) 0) 316 (5 + eW E) 0)) (by exact hS4) (by rw [zsI_ne (by omega), zsI_ne (by omega), zsI_ne (by omega)]; exact wFm_d cl') 1 9
    have hSW : pMs S (wFm M4 q1 (nxk T n 1 tk).2.2.1).2.2 := hS4
    have gq : (zsI (zsI (zsI (zsI (wFm M4 q1 (nxk T n 1 tk).2.2.1) 314 (5 + eW E) 0) 315 (5 + eW E) 0) 316 (5 + eW E) 0) 317 (5 + eW E) 1).1 308 10 = nI (eW E) := by rw [zsI_ne (by omega), zsI_ne (by omega), zsI_ne (by omega), zsI_ne (by omega)]; unfold wFm; rw [zsI_ne (by omega), zsI_ne (by omega)]; exact g4
    have fq := frs (zsI (zsI (zsI (zsI (wFm M4 q1 (nxk T n 1 tk).2.2.1) 314 (5 + eW E) 0) 315 (5 + eW E) 0) 316 (5 + eW E) 0) 317 (5 + eW E) 1) (by exact p3) gq
    have rq := rds (zsI (zsI (zsI (zsI (wFm M4 q1 (nxk T n 1 tk).2.2.1) 314 (5 + eW E) 0) 315 (5 + eW E) 0) 316 (5 + eW E) 0) 317 (5 + eW E) 1) (by exact p3)
    have dd : ¬ (zsI (zsI (zsI (zsI (zsI (wFm M4 q1 (nxk T n 1 tk).2.2.1) 314 (5 + eW E) 0) 315 (5 + eW E) 0) 316 (5 + eW E) 0) 317 (5 + eW E) 1) 308 10 (nI (eW E + 1))).1 306 24 = 0 := by rw [zsI_ne (by omega)]; rw [zsI_ne (by omega), zsI_ne (by omega), zsI_ne (by omega), zsI_ne (by omega)]; exact wFm_d cl'
    have d3 := d_358 (S := S) (M := (zsI (zsI (zsI (zsI (zsI (wFm M4 q1 (nxk T n 1 tk).2.2.1) 314 (5 + eW E) 0) 315 (5 + eW E) 0) 316 (5 + eW E) 0) 317 (5 + eW E) 1) 308 10 (nI (eW E + 1)))) (by exact hS4) dd
    refine ⟨(zsI (zsI (zsI (zsI (zsI (wFm M4 q1 (nxk T n 1 tk).2.2.1) 314 (5 + eW E) 0) 315 (5 + eW E) 0) 316 (5 + eW E) 0) 317 (5 + eW E) 1) 308 10 (nI (eW E + 1))), ?_, mK_i cl' (by exact p3) (fun x y z => ?_) (by rw [zsI_ne (by omega)]; rw [zsI_ne (by omega), zsI_ne (by omega), zsI_ne (by omega), zsI_ne (by omega)]; unfold wFm; rw [zsI_ne (by omega), zsI_at]) (by rw [zsI_ne (by omega)]; rw [zsI_ne (by omega), zsI_ne (by omega), zsI_ne (by omega), zsI_ne (by omega)]; exact zsI_at _ _ _ _)⟩
    · simp (disch := first | omega | simp only [qI2, qL2, qC2, qF2]) only [gX12_line_70, ↓mH hS, h24, p1', ↓bind_of p2, if_neg (show ¬ (3 : Int32) = 0 by decide), if_neg (show ¬ (3 : Int32) = 1 by decide), if_neg (show ¬ (3 : Int32) = 2 by decide), if_true, ↓bind_of fr4, ↓mH hS4, ↓zb2_of fr', ↓w314, ↓mH hSW, ↓zb2_of dn0, ↓w315, ↓zb2_of dn1, ↓w316, ↓zb2_of dn2, ↓w317, ↓bind_of fq, ↓bind_of rq, d3]
    · rw [zsI_ne (by unfold mPq at z; omega)]
      rw [zsI_ne (by unfold mPq at z; omega), zsI_ne (by unfold mPq at z; omega), zsI_ne (by unfold mPq at z; omega), zsI_ne (by unfold mPq at z; omega)]
      unfold wFm
      rw [zsI_ne (by unfold mPq at z; omega), zsI_ne (by unfold mPq at z; omega)]
      exact p4 x y z
  rw [if_pos e1] at fr' ⊢
  have r1 : (zsI N1 314 (5 + eW E) (nI (nxk T n 1 tk).2.1)).2.2 = M.2.2 := f2.trans p3
  have F1 : ∀ x y, ¬ mPq x y → (zsI N1 314 (5 + eW E) (nI (nxk T n 1 tk).2.1)).1 x y = M.1 x y := fun x y z => by
    rw [zsI_ne (by unfold mPq at z; omega), f3 x y (by unfold mPq at z; unfold qTk; omega)]
    exact p4 x y z
  have b1 := mPp_dd (x := 314) (y := 5 + eW E) (v := nI (nxk T n 1 tk).2.1) f4 (by omega) (by unfold mDd; omega)
  have g1x : (zsI N1 314 (5 + eW E) (nI (nxk T n 1 tk).2.1)).1 308 10 = nI (eW E) := b1.2.2.1.1.2.2.2.1
  have hN1 : pMs S N1.2.2 := by rw [show N1.2.2 = M.2.2 from r1]; exact hS
  have hM1 : pMs S (zsI N1 314 (5 + eW E) (nI (nxk T n 1 tk).2.1)).2.2 := hN1
  obtain ⟨N2, f21, f22, f23, f24⟩ := mPp_nx b1 o2
  obtain ⟨N2', f21', nu2⟩ := m_num (lo := 0) (hi := 24) b1 o2 (by decide) (by decide)
  have := tok_u f21 f21'
  subst this
  have nu2' : gX12_numeral S 306 0 24 (zsI N1 314 (5 + eW E) (nI (nxk T n 1 tk).2.1)) = some (if nbF 0 24 (nxk T n 2 tk) = 0 then (nI (nxk T n 2 tk).2.1, N2) else (nI 0, wFm (zsI N1 314 (5 + eW E) (nI (nxk T n 1 tk).2.1)) (nbF 0 24 (nxk T n 2 tk)) (nxk T n 2 tk).2.2.1)) := nu2
  have cle := nb_le (tk := (nxk T n 2 tk)) (lo := 0) (hi := 24)
  generalize hc2 : nbF 0 24 (nxk T n 2 tk) = q2 at nu2' cle
  by_cases e2 : q2 = 0
  rotate_left
  · rw [if_neg e2] at nu2' ⊢
    have cl' : 1 ≤ q2 ∧ q2 ≤ 4 := cle e2
    have dn0 := d_numeral (S := S) (M := (zsI (wFm (zsI N1 314 (5 + eW E) (nI (nxk T n 1 tk).2.1)) q2 (nxk T n 2 tk).2.2.1) 315 (5 + eW E) (nI 0))) (by exact hM1) (by rw [zsI_ne (by omega)]; exact wFm_d cl') 0 24
    have dn1 := d_numeral (S := S) (M := (zsI (zsI (wFm (zsI N1 314 (5 + eW E) (nI (nxk T n 1 tk).2.1)) q2 (nxk T n 2 tk).2.2.1) 315 (5 + eW E) (nI 0)) 316 (5 + eW E) 0)) (by exact hM1) (by rw [zsI_ne (by omega), zsI_ne (by omega)]; exact wFm_d cl') 1 9
    have hSW : pMs S (wFm (zsI N1 314 (5 + eW E) (nI (nxk T n 1 tk).2.1)) q2 (nxk T n 2 tk).2.2.1).2.2 := hM1
    have gq : (zsI (zsI (zsI (wFm (zsI N1 314 (5 + eW E) (nI (nxk T n 1 tk).2.1)) q2 (nxk T n 2 tk).2.2.1) 315 (5 + eW E) (nI 0)) 316 (5 + eW E) 0) 317 (5 + eW E) 1).1 308 10 = nI (eW E) := by rw [zsI_ne (by omega), zsI_ne (by omega), zsI_ne (by omega)]; unfold wFm; rw [zsI_ne (by omega), zsI_ne (by omega)]; exact g1x
    have fq := frs (zsI (zsI (zsI (wFm (zsI N1 314 (5 + eW E) (nI (nxk T n 1 tk).2.1)) q2 (nxk T n 2 tk).2.2.1) 315 (5 + eW E) (nI 0)) 316 (5 + eW E) 0) 317 (5 + eW E) 1) (by exact r1) gq
    have rq := rds (zsI (zsI (zsI (wFm (zsI N1 314 (5 + eW E) (nI (nxk T n 1 tk).2.1)) q2 (nxk T n 2 tk).2.2.1) 315 (5 + eW E) (nI 0)) 316 (5 + eW E) 0) 317 (5 + eW E) 1) (by exact r1)
    have dd : ¬ (zsI (zsI (zsI (zsI (wFm (zsI N1 314 (5 + eW E) (nI (nxk T n 1 tk).2.1)) q2 (nxk T n 2 tk).2.2.1) 315 (5 + eW E) (nI 0)) 316 (5 + eW E) 0) 317 (5 + eW E) 1) 308 10 (nI (eW E + 1))).1 306 24 = 0 := by rw [zsI_ne (by omega)]; rw [zsI_ne (by omega), zsI_ne (by omega), zsI_ne (by omega)]; exact wFm_d cl'
    have d3 := d_358 (S := S) (M := (zsI (zsI (zsI (zsI (wFm (zsI N1 314 (5 + eW E) (nI (nxk T n 1 tk).2.1)) q2 (nxk T n 2 tk).2.2.1) 315 (5 + eW E) (nI 0)) 316 (5 + eW E) 0) 317 (5 + eW E) 1) 308 10 (nI (eW E + 1)))) (by exact hM1) dd
    refine ⟨(zsI (zsI (zsI (zsI (wFm (zsI N1 314 (5 + eW E) (nI (nxk T n 1 tk).2.1)) q2 (nxk T n 2 tk).2.2.1) 315 (5 + eW E) (nI 0)) 316 (5 + eW E) 0) 317 (5 + eW E) 1) 308 10 (nI (eW E + 1))), ?_, mK_i cl' (by exact r1) (fun x y z => ?_) (by rw [zsI_ne (by omega)]; rw [zsI_ne (by omega), zsI_ne (by omega), zsI_ne (by omega)]; unfold wFm; rw [zsI_ne (by omega), zsI_at]) (by rw [zsI_ne (by omega)]; rw [zsI_ne (by omega), zsI_ne (by omega), zsI_ne (by omega)]; exact zsI_at _ _ _ _)⟩
    · simp (disch := first | omega | simp only [qI2, qL2, qC2, qF2]) only [gX12_line_70, ↓mH hS, h24, p1', ↓bind_of p2, if_neg (show ¬ (3 : Int32) = 0 by decide), if_neg (show ¬ (3 : Int32) = 1 by decide), if_neg (show ¬ (3 : Int32) = 2 by decide), if_true, ↓bind_of fr4, ↓mH hS4, ↓zb2_of fr', ↓w314, ↓mH hN1, ↓zb2_of nu2', ↓w315, ↓mH hSW, ↓zb2_of dn0, ↓w316, ↓zb2_of dn1, ↓w317, ↓bind_of fq, ↓bind_of rq, d3]
    · rw [zsI_ne (by unfold mPq at z; omega)]
      rw [zsI_ne (by unfold mPq at z; omega), zsI_ne (by unfold mPq at z; omega), zsI_ne (by unfold mPq at z; omega)]
      unfold wFm
      rw [zsI_ne (by unfold mPq at z; omega), zsI_ne (by unfold mPq at z; omega)]
      exact F1 x y z
  rw [if_pos e2] at nu2' ⊢
  have r2 : (zsI N2 315 (5 + eW E) (nI (nxk T n 2 tk).2.1)).2.2 = M.2.2 := f22.trans r1
  have F2 : ∀ x y, ¬ mPq x y → (zsI N2 315 (5 + eW E) (nI (nxk T n 2 tk).2.1)).1 x y = M.1 x y := fun x y z => by
    rw [zsI_ne (by unfold mPq at z; omega), f23 x y (by unfold mPq at z; unfold qTk; omega)]
    exact F1 x y z
  have b2 := mPp_dd (x := 315) (y := 5 + eW E) (v := nI (nxk T n 2 tk).2.1) f24 (by omega) (by unfold mDd; omega)
  have g2x : (zsI N2 315 (5 + eW E) (nI (nxk T n 2 tk).2.1)).1 308 10 = nI (eW E) := b2.2.2.1.1.2.2.2.1
  have hN2 : pMs S N2.2.2 := by rw [show N2.2.2 = M.2.2 from r2]; exact hS
  have hM2 : pMs S (zsI N2 315 (5 + eW E) (nI (nxk T n 2 tk).2.1)).2.2 := hN2
  have k42 := nb_4 (by rw [hc2]; exact e2)
  obtain ⟨N3, f31, f32, f33, f34⟩ := mPp_nx b2 o3
  obtain ⟨N3', f31', nu3⟩ := m_num (lo := 0) (hi := 24) b2 o3 (by decide) (by decide)
  have := tok_u f31 f31'
  subst this
  have nu3' : gX12_numeral S 306 0 24 (zsI N2 315 (5 + eW E) (nI (nxk T n 2 tk).2.1)) = some (if nbF 0 24 (nxk T n 3 tk) = 0 then (nI (nxk T n 3 tk).2.1, N3) else (nI 0, wFm (zsI N2 315 (5 + eW E) (nI (nxk T n 2 tk).2.1)) (nbF 0 24 (nxk T n 3 tk)) (nxk T n 3 tk).2.2.1)) := nu3
  have cle := nb_le (tk := (nxk T n 3 tk)) (lo := 0) (hi := 24)
  generalize hc3 : nbF 0 24 (nxk T n 3 tk) = q3 at nu3' cle
  by_cases e3 : q3 = 0
  rotate_left
  · rw [if_neg e3] at nu3' ⊢
    have cl' : 1 ≤ q3 ∧ q3 ≤ 4 := cle e3
    have dn0 := d_numeral (S := S) (M := (zsI (wFm (zsI N2 315 (5 + eW E) (nI (nxk T n 2 tk).2.1)) q3 (nxk T n 3 tk).2.2.1) 316 (5 + eW E) (nI 0))) (by exact hM2) (by rw [zsI_ne (by omega)]; exact wFm_d cl') 1 9
    have hSW : pMs S (wFm (zsI N2 315 (5 + eW E) (nI (nxk T n 2 tk).2.1)) q3 (nxk T n 3 tk).2.2.1).2.2 := hM2
    have gq : (zsI (zsI (wFm (zsI N2 315 (5 + eW E) (nI (nxk T n 2 tk).2.1)) q3 (nxk T n 3 tk).2.2.1) 316 (5 + eW E) (nI 0)) 317 (5 + eW E) 1).1 308 10 = nI (eW E) := by rw [zsI_ne (by omega), zsI_ne (by omega)]; unfold wFm; rw [zsI_ne (by omega), zsI_ne (by omega)]; exact g2x
    have fq := frs (zsI (zsI (wFm (zsI N2 315 (5 + eW E) (nI (nxk T n 2 tk).2.1)) q3 (nxk T n 3 tk).2.2.1) 316 (5 + eW E) (nI 0)) 317 (5 + eW E) 1) (by exact r2) gq
    have rq := rds (zsI (zsI (wFm (zsI N2 315 (5 + eW E) (nI (nxk T n 2 tk).2.1)) q3 (nxk T n 3 tk).2.2.1) 316 (5 + eW E) (nI 0)) 317 (5 + eW E) 1) (by exact r2)
    have dd : ¬ (zsI (zsI (zsI (wFm (zsI N2 315 (5 + eW E) (nI (nxk T n 2 tk).2.1)) q3 (nxk T n 3 tk).2.2.1) 316 (5 + eW E) (nI 0)) 317 (5 + eW E) 1) 308 10 (nI (eW E + 1))).1 306 24 = 0 := by rw [zsI_ne (by omega)]; rw [zsI_ne (by omega), zsI_ne (by omega)]; exact wFm_d cl'
    have d3 := d_358 (S := S) (M := (zsI (zsI (zsI (wFm (zsI N2 315 (5 + eW E) (nI (nxk T n 2 tk).2.1)) q3 (nxk T n 3 tk).2.2.1) 316 (5 + eW E) (nI 0)) 317 (5 + eW E) 1) 308 10 (nI (eW E + 1)))) (by exact hM2) dd
    refine ⟨(zsI (zsI (zsI (wFm (zsI N2 315 (5 + eW E) (nI (nxk T n 2 tk).2.1)) q3 (nxk T n 3 tk).2.2.1) 316 (5 + eW E) (nI 0)) 317 (5 + eW E) 1) 308 10 (nI (eW E + 1))), ?_, mK_i cl' (by exact r2) (fun x y z => ?_) (by rw [zsI_ne (by omega)]; rw [zsI_ne (by omega), zsI_ne (by omega)]; unfold wFm; rw [zsI_ne (by omega), zsI_at]) (by rw [zsI_ne (by omega)]; rw [zsI_ne (by omega), zsI_ne (by omega)]; exact zsI_at _ _ _ _)⟩
    · simp (disch := first | omega | simp only [qI2, qL2, qC2, qF2]) only [gX12_line_70, ↓mH hS, h24, p1', ↓bind_of p2, if_neg (show ¬ (3 : Int32) = 0 by decide), if_neg (show ¬ (3 : Int32) = 1 by decide), if_neg (show ¬ (3 : Int32) = 2 by decide), if_true, ↓bind_of fr4, ↓mH hS4, ↓zb2_of fr', ↓w314, ↓mH hN1, ↓zb2_of nu2', ↓w315, ↓mH hN2, ↓zb2_of nu3', ↓w316, ↓mH hSW, ↓zb2_of dn0, ↓w317, ↓bind_of fq, ↓bind_of rq, d3]
    · rw [zsI_ne (by unfold mPq at z; omega)]
      rw [zsI_ne (by unfold mPq at z; omega), zsI_ne (by unfold mPq at z; omega)]
      unfold wFm
      rw [zsI_ne (by unfold mPq at z; omega), zsI_ne (by unfold mPq at z; omega)]
      exact F2 x y z
  rw [if_pos e3] at nu3' ⊢
  have r3 : (zsI N3 316 (5 + eW E) (nI (nxk T n 3 tk).2.1)).2.2 = M.2.2 := f32.trans r2
  have F3 : ∀ x y, ¬ mPq x y → (zsI N3 316 (5 + eW E) (nI (nxk T n 3 tk).2.1)).1 x y = M.1 x y := fun x y z => by
    rw [zsI_ne (by unfold mPq at z; omega), f33 x y (by unfold mPq at z; unfold qTk; omega)]
    exact F2 x y z
  have b3 := mPp_dd (x := 316) (y := 5 + eW E) (v := nI (nxk T n 3 tk).2.1) f34 (by omega) (by unfold mDd; omega)
  have g3x : (zsI N3 316 (5 + eW E) (nI (nxk T n 3 tk).2.1)).1 308 10 = nI (eW E) := b3.2.2.1.1.2.2.2.1
  have hN3 : pMs S N3.2.2 := by rw [show N3.2.2 = M.2.2 from r3]; exact hS
  have hM3 : pMs S (zsI N3 316 (5 + eW E) (nI (nxk T n 3 tk).2.1)).2.2 := hN3
  have k43 := nb_4 (by rw [hc3]; exact e3)
  obtain ⟨N4, f41, f42, f43, f44⟩ := mPp_nx b3 o4
  obtain ⟨N4', f41', nu4⟩ := m_num (lo := 1) (hi := 9) b3 o4 (by decide) (by decide)
  have := tok_u f41 f41'
  subst this
  have nu4' : gX12_numeral S 306 1 9 (zsI N3 316 (5 + eW E) (nI (nxk T n 3 tk).2.1)) = some (if nbF 1 9 (nxk T n 4 tk) = 0 then (nI (nxk T n 4 tk).2.1, N4) else (nI 1, wFm (zsI N3 316 (5 + eW E) (nI (nxk T n 3 tk).2.1)) (nbF 1 9 (nxk T n 4 tk)) (nxk T n 4 tk).2.2.1)) := nu4
  have cle := nb_le (tk := (nxk T n 4 tk)) (lo := 1) (hi := 9)
  generalize hc4 : nbF 1 9 (nxk T n 4 tk) = q4 at nu4' cle
  by_cases e4 : q4 = 0
  rotate_left
  · rw [if_neg e4] at nu4' ⊢
    have cl' : 1 ≤ q4 ∧ q4 ≤ 4 := cle e4
    have hSW : pMs S (wFm (zsI N3 316 (5 + eW E) (nI (nxk T n 3 tk).2.1)) q4 (nxk T n 4 tk).2.2.1).2.2 := hM3
    have gq : (zsI (wFm (zsI N3 316 (5 + eW E) (nI (nxk T n 3 tk).2.1)) q4 (nxk T n 4 tk).2.2.1) 317 (5 + eW E) (nI 1)).1 308 10 = nI (eW E) := by rw [zsI_ne (by omega)]; unfold wFm; rw [zsI_ne (by omega), zsI_ne (by omega)]; exact g3x
    have fq := frs (zsI (wFm (zsI N3 316 (5 + eW E) (nI (nxk T n 3 tk).2.1)) q4 (nxk T n 4 tk).2.2.1) 317 (5 + eW E) (nI 1)) (by exact r3) gq
    have rq := rds (zsI (wFm (zsI N3 316 (5 + eW E) (nI (nxk T n 3 tk).2.1)) q4 (nxk T n 4 tk).2.2.1) 317 (5 + eW E) (nI 1)) (by exact r3)
    have dd : ¬ (zsI (zsI (wFm (zsI N3 316 (5 + eW E) (nI (nxk T n 3 tk).2.1)) q4 (nxk T n 4 tk).2.2.1) 317 (5 + eW E) (nI 1)) 308 10 (nI (eW E + 1))).1 306 24 = 0 := by rw [zsI_ne (by omega)]; rw [zsI_ne (by omega)]; exact wFm_d cl'
    have d3 := d_358 (S := S) (M := (zsI (zsI (wFm (zsI N3 316 (5 + eW E) (nI (nxk T n 3 tk).2.1)) q4 (nxk T n 4 tk).2.2.1) 317 (5 + eW E) (nI 1)) 308 10 (nI (eW E + 1)))) (by exact hM3) dd
    refine ⟨(zsI (zsI (wFm (zsI N3 316 (5 + eW E) (nI (nxk T n 3 tk).2.1)) q4 (nxk T n 4 tk).2.2.1) 317 (5 + eW E) (nI 1)) 308 10 (nI (eW E + 1))), ?_, mK_i cl' (by exact r3) (fun x y z => ?_) (by rw [zsI_ne (by omega)]; rw [zsI_ne (by omega)]; unfold wFm; rw [zsI_ne (by omega), zsI_at]) (by rw [zsI_ne (by omega)]; rw [zsI_ne (by omega)]; exact zsI_at _ _ _ _)⟩
    · simp (disch := first | omega | simp only [qI2, qL2, qC2, qF2]) only [gX12_line_70, ↓mH hS, h24, p1', ↓bind_of p2, if_neg (show ¬ (3 : Int32) = 0 by decide), if_neg (show ¬ (3 : Int32) = 1 by decide), if_neg (show ¬ (3 : Int32) = 2 by decide), if_true, ↓bind_of fr4, ↓mH hS4, ↓zb2_of fr', ↓w314, ↓mH hN1, ↓zb2_of nu2', ↓w315, ↓mH hN2, ↓zb2_of nu3', ↓w316, ↓mH hN3, ↓zb2_of nu4', ↓w317, ↓mH hSW, ↓bind_of fq, ↓bind_of rq, d3]
    · rw [zsI_ne (by unfold mPq at z; omega)]
      rw [zsI_ne (by unfold mPq at z; omega)]
      unfold wFm
      rw [zsI_ne (by unfold mPq at z; omega), zsI_ne (by unfold mPq at z; omega)]
      exact F3 x y z
  rw [if_pos e4] at nu4' ⊢
  have r4 : (zsI N4 317 (5 + eW E) (nI (nxk T n 4 tk).2.1)).2.2 = M.2.2 := f42.trans r3
  have F4 : ∀ x y, ¬ mPq x y → (zsI N4 317 (5 + eW E) (nI (nxk T n 4 tk).2.1)).1 x y = M.1 x y := fun x y z => by
    rw [zsI_ne (by unfold mPq at z; omega), f43 x y (by unfold mPq at z; unfold qTk; omega)]
    exact F3 x y z
  have b4 := mPp_dd (x := 317) (y := 5 + eW E) (v := nI (nxk T n 4 tk).2.1) f44 (by omega) (by unfold mDd; omega)
  have g4x : (zsI N4 317 (5 + eW E) (nI (nxk T n 4 tk).2.1)).1 308 10 = nI (eW E) := b4.2.2.1.1.2.2.2.1
  have hN4 : pMs S N4.2.2 := by rw [show N4.2.2 = M.2.2 from r4]; exact hS
  have hM4 : pMs S (zsI N4 317 (5 + eW E) (nI (nxk T n 4 tk).2.1)).2.2 := hN4
  have k44 := nb_4 (by rw [hc4]; exact e4)
  have fq := frs (zsI N4 317 (5 + eW E) (nI (nxk T n 4 tk).2.1)) r4 g4x
  have rq := rds (zsI N4 317 (5 + eW E) (nI (nxk T n 4 tk).2.1)) r4
  have hv0 : (zsI N4 317 (5 + eW E) (nI (nxk T n 4 tk).2.1)).1 314 (5 + eW E) = nI (nxk T n 1 tk).2.1 := by rw [zsI_ne (by omega), f43 _ _ (by unfold qTk; omega), zsI_ne (by omega), f33 _ _ (by unfold qTk; omega), zsI_ne (by omega), f23 _ _ (by unfold qTk; omega), zsI_at]
  have hv1 : (zsI N4 317 (5 + eW E) (nI (nxk T n 4 tk).2.1)).1 315 (5 + eW E) = nI (nxk T n 2 tk).2.1 := by rw [zsI_ne (by omega), f43 _ _ (by unfold qTk; omega), zsI_ne (by omega), f33 _ _ (by unfold qTk; omega), zsI_at]
  have hv2 : (zsI N4 317 (5 + eW E) (nI (nxk T n 4 tk).2.1)).1 316 (5 + eW E) = nI (nxk T n 3 tk).2.1 := by rw [zsI_ne (by omega), f43 _ _ (by unfold qTk; omega), zsI_at]
  have hv3 : (zsI N4 317 (5 + eW E) (nI (nxk T n 4 tk).2.1)).1 317 (5 + eW E) = nI (nxk T n 4 tk).2.1 := by rw [zsI_at]
  have bF : mPp S (zsI (zsI N4 317 (5 + eW E) (nI (nxk T n 4 tk).2.1)) 308 10 (nI (eW E + 1))) T n (nxk T n 5 tk) (adW E (nI (nxk T n 1 tk).2.1) (nxk T n 2 tk).2.1 (nxk T n 3 tk).2.1 (nxk T n 4 tk).2.1) sl sd ln := mPp_ad b4 (by omega) rfl rfl (mDr_W1 b4.2.2.1 hv0 hv1 hv2 hv3)
  obtain ⟨M9, z1, z2⟩ := m_358 bF o5 (M0 := M) r4 (fun x y z => by rw [zsI_ne (by unfold mPq at z; omega)]; exact F4 x y z)
  refine ⟨M9, ?_, z2⟩
  simp (disch := first | omega | simp only [qI2, qL2, qC2, qF2]) only [gX12_line_70, ↓mH hS, h24, p1', ↓bind_of p2, if_neg (show ¬ (3 : Int32) = 0 by decide), if_neg (show ¬ (3 : Int32) = 1 by decide), if_neg (show ¬ (3 : Int32) = 2 by decide), if_true, ↓bind_of fr4, ↓mH hS4, ↓zb2_of fr', ↓w314, ↓mH hN1, ↓zb2_of nu2', ↓w315, ↓mH hN2, ↓zb2_of nu3', ↓w316, ↓mH hN3, ↓zb2_of nu4', ↓w317, ↓mH hN4, ↓bind_of fq, ↓bind_of rq]
  exact z1
end ML
