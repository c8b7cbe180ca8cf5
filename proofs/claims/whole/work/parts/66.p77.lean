/-! pure part 77: lines: the model's picture and small steps -/
def pRm (I : Nat → Nat → Int32) (r kn : Nat) (L : List (Nat × Int32)) : Prop := ∃ b, b + L.length ≤ kn ∧ I 318 (3 + r) = nI b ∧ I 319 (3 + r) = nI (b + L.length) ∧ lsM (fun j => I 320 (64 + j)) (fun j => I 321 (64 + j)) b L
def mD0 (I : Nat → Nat → Int32) (E : zEn) : Prop := I 308 7 = nI (eT E) ∧ I 308 8 = nI (eP E) ∧ I 308 9 = nI (eC E) ∧ I 308 10 = nI (eW E) ∧ I 308 11 = nI (eS E) ∧ I 308 12 = eD E ∧ I 308 13 = nI (eK E)
def mD1 (I : Nat → Nat → Int32) (E : zEn) : Prop := ∀ i, i < eT E → I 309 (6 + i) = eTn E i ∧ I 310 (6 + i) = nI (eHr E i) ∧ I 311 (6 + i) = nI (eMn E i)
def mD2 (I : Nat → Nat → Int32) (E : zEn) : Prop := ∀ i, i < eP E → I 312 (12 + i) = nI (eLs E i)
def mD3 (I : Nat → Nat → Int32) (E : zEn) : Prop := ∀ d, d < 100 → I 313 (100 + d) = oI (eCl E d)
def mD4 (I : Nat → Nat → Int32) (E : zEn) : Prop := ∀ w, w < eW E → I 314 (5 + w) = eWn E w ∧ I 315 (5 + w) = eLo E w ∧ I 316 (5 + w) = eHi E w ∧ I 317 (5 + w) = nI (eNd E w)
def mD5 (I : Nat → Nat → Int32) (E : zEn) : Prop := ∀ r, r < 3 → pRm I r (eK E) (eRu E r)
def mDr (I : Nat → Nat → Int32) (E : zEn) : Prop := mD0 I E ∧ mD1 I E ∧ mD2 I E ∧ mD3 I E ∧ mD4 I E ∧ mD5 I E
def mBt (I : Nat → Nat → Int32) (E : zEn) (sl sd : Bool) : Prop := ∃ p : Nat → Bool, I 306 17 = nI (bs p 24) ∧ p 4 = sl ∧ p 5 = sd ∧ ∀ k, k < 3 → (p (16 + k) = true ↔ eRu E k ≠ [])
def mPp (S : List (Nat × Nat)) (M : zM) (T : Nat → Nat) (n : Nat) (tk : zTk) (E : zEn) (sl sd : Bool) (ln : Nat) : Prop := (mTx S M.2.2 M.1 T n ∧ mTk M.1 tk) ∧ (M.1 306 24 = 0 ∧ M.1 306 25 = -1 ∧ M.1 306 28 = 0 ∧ M.1 306 29 = nI (eK E) ∧ M.1 306 18 = nI ln) ∧ mDr M.1 E ∧ mBt M.1 E sl sd
def mPq (x y : Nat) : Prop := (x = 306 ∧ (y = 17 ∨ y = 18 ∨ (20 ≤ y ∧ y ≤ 25) ∨ y = 28 ∨ y = 29)) ∨ (x = 308 ∧ 7 ≤ y) ∨ ((x = 309 ∨ x = 310 ∨ x = 311) ∧ 6 ≤ y) ∨ (x = 312 ∧ 12 ≤ y) ∨ (x = 313 ∧ 100 ≤ y) ∨ (314 ≤ x ∧ x ≤ 317 ∧ 5 ≤ y) ∨ ((x = 318 ∨ x = 319) ∧ 3 ≤ y) ∨ ((x = 320 ∨ x = 321) ∧ 64 ≤ y)
def mKr (S : List (Nat × Nat)) (T : Nat → Nat) (n ln : Nat) (M0 : zM) (r : zLr) (M' : zM) : Prop := M'.2.2 = M0.2.2 ∧ (∀ x y, ¬ mPq x y → M'.1 x y = M0.1 x y) ∧ (∀ f p, r = .inl (f, p) → (1 ≤ f ∧ f ≤ 4) ∧ M'.1 306 24 = nI f ∧ M'.1 306 25 = nI p) ∧ (∀ tk E sl sd, r = .inr (tk, E, sl, sd) → mPp S M' T n tk E sl sd ln)
/-- cells of what is told -/
def mLv (x : Nat) : Prop := 308 ≤ x ∧ x ≤ 321
theorem mDr_cg {I I' : Nat → Nat → Int32} {E : zEn} (h : ∀ x y, mLv x → I' x y = I x y) (hD : mDr I E) : mDr I' E := by
  obtain ⟨⟨a1, a2, a3, a4, a5, a6, a7⟩, b, c, d, e, f⟩ := hD
  have q : ∀ x y, 308 ≤ x → x ≤ 321 → I' x y = I x y := fun x y h1 h2 => h x y ⟨h1, h2⟩
  exact ⟨⟨(q _ _ (by omega) (by omega)).trans a1, (q _ _ (by omega) (by omega)).trans a2, (q _ _ (by omega) (by omega)).trans a3, (q _ _ (by omega) (by omega)).trans a4, (q _ _ (by omega) (by omega)).trans a5, (q _ _ (by omega) (by omega)).trans a6, (q _ _ (by omega) (by omega)).trans a7⟩, fun i hi => ⟨(q _ _ (by omega) (by omega)).trans (b i hi).1, (q _ _ (by omega) (by omega)).trans (b i hi).2.1, (q _ _ (by omega) (by omega)).trans (b i hi).2.2⟩, fun i hi => (q _ _ (by omega) (by omega)).trans (c i hi), fun i hi => (q _ _ (by omega) (by omega)).trans (d i hi), fun i hi => ⟨(q _ _ (by omega) (by omega)).trans (e i hi).1, (q _ _ (by omega) (by omega)).trans (e i hi).2.1, (q _ _ (by omega) (by omega)).trans (e i hi).2.2.1, (q _ _ (by omega) (by omega)).trans (e i hi).2.2.2⟩, fun r hr => by
    obtain ⟨b, h1, h2, h3, h4⟩ := f r hr
    exact ⟨b, h1, (q _ _ (by omega) (by omega)).trans h2, (q _ _ (by omega) (by omega)).trans h3, lsM_cg (fun j _ _ => ⟨q _ _ (by omega) (by omega), q _ _ (by omega) (by omega)⟩) h4⟩⟩
theorem mBt_cg {I I' : Nat → Nat → Int32} {E : zEn} {sl sd : Bool} (h : I' 306 17 = I 306 17) (hB : mBt I E sl sd) : mBt I' E sl sd := by
  obtain ⟨p, a, b⟩ := hB
  exact ⟨p, h.trans a, b⟩
def wFm (M : zM) (f p : Nat) : zM := zsI (zsI M 306 24 (nI f)) 306 25 (nI p)
theorem wFm_d {M : zM} {f p : Nat} (h : 1 ≤ f ∧ f ≤ 4) : ¬ (wFm M f p).1 306 24 = 0 := by
  unfold wFm
  rw [zsI_ne (by omega), zsI_at]
  rcases (show f = 1 ∨ f = 2 ∨ f = 3 ∨ f = 4 by omega) with rfl | rfl | rfl | rfl <;> decide
section ML
variable {S : List (Nat × Nat)} {M : zM} {T : Nat → Nat} {n : Nat} {tk : zTk} {E : zEn} {sl sd : Bool} {ln : Nat}
theorem mPp_nx (h : mPp S M T n tk E sl sd ln) (ho : tkOk n 0 tk) : ∃ M', gX12_token S 306 M = some M' ∧ M'.2.2 = M.2.2 ∧ (∀ x y, ¬ qTk x y → M'.1 x y = M.1 x y) ∧ mPp S M' T n (tokS T n tk.2.2.2) E sl sd ln := by
  obtain ⟨⟨hx, t20, t21, tsv⟩, ⟨a1, a2, a3, a4, a5⟩, d, b⟩ := h
  obtain ⟨M', e1, e2, e3, e4⟩ := m_token hx ho.1.2.2.2.2 t20
  exact ⟨M', e1, e2, e3, ⟨e2.symm ▸ mTx_cg (fun x y q => e3 x y (by unfold qTk; omega)) hx, e4⟩, ⟨(e3 _ _ (by unfold qTk; omega)).trans a1, (e3 _ _ (by unfold qTk; omega)).trans a2, (e3 _ _ (by unfold qTk; omega)).trans a3, (e3 _ _ (by unfold qTk; omega)).trans a4, (e3 _ _ (by unfold qTk; omega)).trans a5⟩, mDr_cg (fun x y q => e3 x y (by unfold mLv at q; unfold qTk; omega)) d, mBt_cg (e3 _ _ (by unfold qTk; omega)) b⟩
/-- a write among what is told -/
theorem mPp_ad {x y : Nat} {v : Int32} {E' : zEn} (h : mPp S M T n tk E sl sd ln) (hx : 308 ≤ x ∧ x ≤ 321) (hk : eK E' = eK E) (hu : eRu E' = eRu E) (hd : mDr (zsI M x y v).1 E') : mPp S (zsI M x y v) T n tk E' sl sd ln := by
  obtain ⟨⟨h0, t20, t21, tsv⟩, ⟨a1, a2, a3, a4, a5⟩, d, ⟨p, b1, b2, b3, b4⟩⟩ := h
  exact ⟨⟨mTx_cg (fun a b q => zsI_ne (by omega)) h0, (zsI_ne (by omega)).trans t20, (zsI_ne (by omega)).trans t21, by rw [zsI_ne (by omega), zsI_ne (by omega)]; exact tsv⟩, ⟨(zsI_ne (by omega)).trans a1, (zsI_ne (by omega)).trans a2, (zsI_ne (by omega)).trans a3, by rw [hk]; exact (zsI_ne (by omega)).trans a4, (zsI_ne (by omega)).trans a5⟩, hd, ⟨p, (zsI_ne (by omega)).trans b1, b2, b3, by rw [hu]; exact b4⟩⟩
theorem mPp_t (h : mPp S M T n tk E sl sd ln) : pMs S M.2.2 ∧ M.1 306 24 = 0 ∧ M.1 306 21 = nI tk.2.2.1 ∧ mSv tk.1 tk.2.1 (M.1 306 22) (M.1 306 23) := ⟨h.1.1.1, h.2.1.1, h.1.2.2.1, h.1.2.2.2⟩
theorem m_frs (hS : pMs S M.2.2) {k : Nat} {x : Int32} (hx : x = nI k) (hk : k < 7) : gX12_fresher S 306 x M = some (M.1 308 (7 + k)) := by
  subst hx
  simp (disch := first | omega | simp only [qI2, qL2, qC2, qF2]) only [gX12_fresher, li7, nI_add, ↓mH hS]
  simp (disch := first | omega | simp only [qI2, qL2, qC2, qF2]) only [↓mG hS]
theorem m_rds (hS : pMs S M.2.2) {k : Nat} {x v : Int32} (hx : x = nI k) (hk : k < 7) : gX12_reads S 306 x v M = some (zsI M 308 (7 + k) v) := by
  subst hx
  simp (disch := first | omega | simp only [qI2, qL2, qC2, qF2]) only [gX12_reads, li7, nI_add, ↓mH hS]
  simp (disch := first | omega | simp only [qI2, qL2, qC2, qF2]) only [↓mG hS]
theorem d_numeral (hS : pMs S M.2.2) (hd : ¬ M.1 306 24 = 0) (x y : Int32) : gX12_numeral S 306 x y M = some (x, M) := by simp (disch := first | omega | simp only [qI2, qL2, qC2, qF2]) only [gX12_numeral, ↓mH hS, if_neg hd]
theorem d_358 (hS : pMs S M.2.2) (hd : ¬ M.1 306 24 = 0) : gX12_line_358 S 306 M = some M := by simp (disch := first | omega | simp only [qI2, qL2, qC2, qF2]) only [gX12_line_358, ↓mH hS, if_neg hd]
theorem d_l70 (hS : pMs S M.2.2) (hd : ¬ M.1 306 24 = 0) (x : Int32) : gX12_line_70 S 306 x M = some M := by simp (disch := first | omega | simp only [qI2, qL2, qC2, qF2]) only [gX12_line_70, ↓mH hS, if_neg hd]
theorem m_wrg (h : mPp S M T n tk E sl sd ln) (f : Nat) : gX12_wrong S 306 (nI f) M = some (wFm M f tk.2.2.1) := by
  obtain ⟨hS, h24, h21, -⟩ := mPp_t h
  exact m_wrong hS h24 h21
theorem m_num (h : mPp S M T n tk E sl sd ln) (ho : tkOk n 0 tk) {lo hi : Nat} (h1 : lo < 100) (h2 : hi ≤ 99999) : ∃ M1, gX12_token S 306 M = some M1 ∧ gX12_numeral S 306 (nI lo) (nI hi) M = some (if nbF lo hi tk = 0 then (nI tk.2.1, M1) else (nI lo, wFm M (nbF lo hi tk) tk.2.2.1)) := by
  obtain ⟨hS, h24, h21, tsv⟩ := mPp_t h
  obtain ⟨M1, a1, a2⟩ := mPp_nx h ho
  refine ⟨M1, a1, ?_⟩
  have w1 : gX12_wrong S 306 1 M = some (wFm M 1 tk.2.2.1) := m_wrg h 1
  have w2 : gX12_wrong S 306 2 M = some (wFm M 2 tk.2.2.1) := m_wrg h 2
  have d1 : ¬ (wFm M 1 tk.2.2.1).1 306 24 = 0 := wFm_d (by omega)
  have d2 : ¬ (wFm M 2 tk.2.2.1).1 306 24 = 0 := wFm_d (by omega)
  unfold nbF
  by_cases c4 : tk.1 = 4
  · obtain ⟨s2, m, v, n1, n2, n3⟩ := tsv.2.2.2.2.1 c4
    rw [if_pos c4]
    by_cases b1 : tk.2.1 < lo
    · have mv : m = tk.2.1 := n1 (by omega)
      subst mv
      rw [if_pos b1]
      simp (disch := first | omega | simp only [qI2, qL2, qC2, qF2]) only [gX12_numeral, ↓mH hS, h24, if_true, s2, v, nI_ltI, if_pos b1, gX12_numeral_41, ↓bind_of w2, if_neg d2]
      rfl
    · rw [if_neg b1]
      by_cases b2 : tk.2.1 ≤ hi
      · have mv : m = tk.2.1 := n1 (by omega)
        subst mv
        rw [if_pos b2]
        simp (disch := first | omega | simp only [qI2, qL2, qC2, qF2]) only [gX12_numeral, ↓mH hS, h24, if_true, s2, v, nI_ltI, if_neg b1, nI_leI, if_pos b2, ↓bind_of a1]
      · have m1 : ¬ m < lo := by
          rcases Nat.lt_or_ge 99999 tk.2.1 with z | z
          · have := n2 z; omega
          · have := n1 z; omega
        have m2 : ¬ m ≤ hi := by
          rcases Nat.lt_or_ge 99999 tk.2.1 with z | z
          · have := n2 z; omega
          · have := n1 z; omega
        rw [if_neg b2]
        simp (disch := first | omega | simp only [qI2, qL2, qC2, qF2]) only [gX12_numeral, ↓mH hS, h24, if_true, s2, v, nI_ltI, if_neg m1, nI_leI, if_neg m2, gX12_numeral_41, ↓bind_of w2, if_neg d2]
        rfl
  · have ns2 : ¬ M.1 306 22 = 2 := by
      obtain ⟨z0, z1, z2, z3, z4, z5, z6, z7, z8⟩ := tsv
      obtain ⟨⟨o1, -⟩, -, o8, -⟩ := ho
      rcases (show tk.1 = 0 ∨ tk.1 = 1 ∨ tk.1 = 2 ∨ tk.1 = 3 ∨ tk.1 = 5 ∨ tk.1 = 6 ∨ tk.1 = 7 ∨ tk.1 = 8 by omega) with e | e | e | e | e | e | e | e
      · rw [z0 e]; decide
      · rw [z1 e]; decide
      · rw [(z2 e).1]; decide
      · rw [(z3 e).1]; decide
      · rw [(z5 e).1]; decide
      · rw [(z6 e).1]; decide
      · rw [(z7 e).1]; decide
      · by_cases g : 6 ≤ tk.2.1
        · rw [((z8 e).2 g).1]; decide
        · rw [((z8 e).1 (by omega)).1]; decide
    rw [if_neg c4]
    simp (disch := first | omega | simp only [qI2, qL2, qC2, qF2]) only [gX12_numeral, ↓mH hS, h24, if_true, if_neg ns2, ↓bind_of w1, if_neg d1]
    rfl
theorem m_sort1 (tsv : mSv tk.1 tk.2.1 (M.1 306 22) (M.1 306 23)) (ho : tkOk n 0 tk) : (M.1 306 22 = 1 ↔ tk.1 = 2) ∧ (M.1 306 22 = 0 → tk.1 = 3 ∨ (tk.1 = 8 ∧ tk.2.1 ≤ 5)) ∧ (M.1 306 22 = 4 ↔ tk.1 = 0) := by
  obtain ⟨z0, z1, z2, z3, z4, z5, z6, z7, z8⟩ := tsv
  obtain ⟨⟨o1, -⟩, -, o8, -⟩ := ho
  rcases (show tk.1 = 0 ∨ tk.1 = 1 ∨ tk.1 = 2 ∨ tk.1 = 3 ∨ tk.1 = 4 ∨ tk.1 = 5 ∨ tk.1 = 6 ∨ tk.1 = 7 ∨ tk.1 = 8 by omega) with e | e | e | e | e | e | e | e | e
  · rw [z0 e]; exact ⟨⟨fun h => absurd h (by decide), fun h => by omega⟩, fun h => absurd h (by decide), ⟨fun _ => e, fun _ => rfl⟩⟩
  · rw [z1 e]; exact ⟨⟨fun h => absurd h (by decide), fun h => by omega⟩, fun h => absurd h (by decide), ⟨fun h => absurd h (by decide), fun h => by omega⟩⟩
  · rw [(z2 e).1]; exact ⟨⟨fun _ => e, fun _ => rfl⟩, fun h => absurd h (by decide), ⟨fun h => absurd h (by decide), fun h => by omega⟩⟩
  · rw [(z3 e).1]; exact ⟨⟨fun h => absurd h (by decide), fun h => by omega⟩, fun _ => Or.inl e, ⟨fun h => absurd h (by decide), fun h => by omega⟩⟩
  · rw [(z4 e).1]; exact ⟨⟨fun h => absurd h (by decide), fun h => by omega⟩, fun h => absurd h (by decide), ⟨fun h => absurd h (by decide), fun h => by omega⟩⟩
  · rw [(z5 e).1]; exact ⟨⟨fun h => absurd h (by decide), fun h => by omega⟩, fun h => absurd h (by decide), ⟨fun h => absurd h (by decide), fun h => by omega⟩⟩
  · rw [(z6 e).1]; exact ⟨⟨fun h => absurd h (by decide), fun h => by omega⟩, fun h => absurd h (by decide), ⟨fun h => absurd h (by decide), fun h => by omega⟩⟩
  · rw [(z7 e).1]; exact ⟨⟨fun h => absurd h (by decide), fun h => by omega⟩, fun h => absurd h (by decide), ⟨fun h => absurd h (by decide), fun h => by omega⟩⟩
  · by_cases g : 6 ≤ tk.2.1
    · rw [((z8 e).2 g).1]; exact ⟨⟨fun h => absurd h (by decide), fun h => by omega⟩, fun h => absurd h (by decide), ⟨fun h => absurd h (by decide), fun h => by omega⟩⟩
    · rw [((z8 e).1 (by omega)).1]; exact ⟨⟨fun h => absurd h (by decide), fun h => by omega⟩, fun _ => Or.inr ⟨e, by omega⟩, ⟨fun h => absurd h (by decide), fun h => by omega⟩⟩
theorem m_fnd {q N c k : Nat} {v : Int32} {f : Nat → Int32} {x : Int32} (hq : S[q]? = some (100, N)) (hN : N < 1000) (hc : c + k ≤ N) (hx : x = nI c) (hf : ∀ i, i < k → M.1 q (c + i) = f i) : gX12_found S q x (nI k) v M = some (oI (fnd f v k 0)) := by
  subst hx
  rw [e_found hq hN hc]
  congr 2
  exact fnd_cg (fun j _ h => hf j (by omega))
/-- a new name: trades (309, 6), works (314, 5) -/
theorem m_fresh {q N c k : Nat} {f : Nat → Int32} {x : Int32} (h : mPp S M T n tk E sl sd ln) (ho : tkOk n 0 tk) (hq : S[q]? = some (100, N)) (hN : N < 1000) (hc : c + k ≤ N) (hx : x = nI c) (hf : ∀ i, i < k → M.1 q (c + i) = f i) : ∃ M1, gX12_token S 306 M = some M1 ∧ gX12_fresh S 306 q x (nI k) M = some (if nwF (fnd f (nI tk.2.1) k 0) tk = 0 then (nI tk.2.1, M1) else (0, wFm M (nwF (fnd f (nI tk.2.1) k 0) tk) tk.2.2.1)) := by
  obtain ⟨hS, h24, h21, tsv⟩ := mPp_t h
  obtain ⟨M1, a1, a2⟩ := mPp_nx h ho
  refine ⟨M1, a1, ?_⟩
  have w1 : gX12_wrong S 306 1 M = some (wFm M 1 tk.2.2.1) := m_wrg h 1
  have w3 : gX12_wrong S 306 3 M = some (wFm M 3 tk.2.2.1) := m_wrg h 3
  have d1 : ¬ (wFm M 1 tk.2.2.1).1 306 24 = 0 := wFm_d (by omega)
  have d3 : ¬ (wFm M 3 tk.2.2.1).1 306 24 = 0 := wFm_d (by omega)
  have s1 := (m_sort1 tsv ho).1
  unfold nwF
  by_cases c2 : tk.1 = 2
  · have s1' := s1.2 c2
    have v := (tsv.2.2.1 c2).2
    have fo := m_fnd (S := S) (M := M) (v := nI tk.2.1) hq hN hc hx hf
    rw [if_pos c2]
    cases o : fnd f (nI tk.2.1) k 0 with
    | none =>
      rw [o] at fo
      have fo' : gX12_found S q x (nI k) (nI tk.2.1) M = some (-1) := fo
      simp (disch := first | omega | simp only [qI2, qL2, qC2, qF2]) only [gX12_fresh, ↓mH hS, h24, if_true, s1', v, ↓bind_of fo', ↓bind_of a1]
    | some j =>
      rw [o] at fo
      have nj : ¬ nI j = (-1 : Int32) := nI_m1ne (by have := (fnd_some o).2.1; omega)
      have fo' : gX12_found S q x (nI k) (nI tk.2.1) M = some (nI j) := fo
      simp (disch := first | omega | simp only [qI2, qL2, qC2, qF2]) only [gX12_fresh, ↓mH hS, h24, if_true, s1', v, ↓bind_of fo', if_neg nj, ↓bind_of w3, if_neg d3]
      rfl
  · have s1' : ¬ M.1 306 22 = 1 := fun e => c2 (s1.1 e)
    rw [if_neg c2]
    simp (disch := first | omega | simp only [qI2, qL2, qC2, qF2]) only [gX12_fresh, ↓mH hS, h24, if_true, if_neg s1', ↓bind_of w1, if_neg d1]
    rfl
theorem m_trA (h : mPp S M T n tk E sl sd ln) (ho : tkOk n 0 tk) (wE : wfE E) : ∃ M1, gX12_token S 306 M = some M1 ∧ gX12_tradeAhead S 306 M = some (if trF (nmT E tk) tk = 0 then (oI (nmT E tk), M1) else (0, wFm M (trF (nmT E tk) tk) tk.2.2.1)) := by
  obtain ⟨hS, h24, h21, tsv⟩ := mPp_t h
  obtain ⟨M1, a1, a2, a3, a4⟩ := mPp_nx h ho
  have hT6 := wE.1
  refine ⟨M1, a1, ?_⟩
  have w1 : gX12_wrong S 306 1 M = some (wFm M 1 tk.2.2.1) := m_wrg h 1
  have w4 : gX12_wrong S 306 4 M = some (wFm M 4 tk.2.2.1) := m_wrg h 4
  have d1 : ¬ (wFm M 1 tk.2.2.1).1 306 24 = 0 := wFm_d (by omega)
  have d4 : ¬ (wFm M 4 tk.2.2.1).1 306 24 = 0 := wFm_d (by omega)
  have g1 := d_goOn (S := S) (M := wFm M 1 tk.2.2.1) hS d1
  have g4 := d_goOn (S := S) (M := wFm M 4 tk.2.2.1) hS d4
  have s1 := (m_sort1 tsv ho).1
  have fr := m_frs (S := S) (M := M) (k := 0) (x := 0) hS rfl (by omega)
  have eT0 : M.1 308 (7 + 0) = nI (eT E) := h.2.2.1.1.1
  rw [eT0] at fr
  have go : gX12_goOn S 306 M = some M1 := by simp (disch := first | omega | simp only [qI2, qL2, qC2, qF2]) only [gX12_goOn, ↓mH hS, h24, if_true, ↓bind_of a1]
  have hS1 : pMs S M1.2.2 := a2.symm ▸ hS
  have h241 := a4.2.1.1
  unfold trF
  by_cases c2 : tk.1 = 2
  · have s1' := s1.2 c2
    have v := (tsv.2.2.1 c2).2
    have fo := m_fnd (S := S) (M := M) (q := 309) (N := 12) (c := 6) (k := eT E) (x := 6) (v := nI tk.2.1) (f := eTn E) (pMg hS 4 309 100 12 (by decide)).2 (by decide) (by omega) rfl (fun i hi => (h.2.2.1.2.1 i hi).1)
    rw [if_pos c2]
    cases o : nmT E tk with
    | none =>
      have o' : fnd (eTn E) (nI tk.2.1) (eT E) 0 = none := o
      rw [o'] at fo
      have fo' : gX12_found S 309 6 (nI (eT E)) (nI tk.2.1) M = some (-1) := fo
      simp (disch := first | omega | simp only [qI2, qL2, qC2, qF2]) only [gX12_tradeAhead, ↓mH hS, h24, if_true, s1', gX12_tradeAhead_22, ↓bind_of fr, v, ↓bind_of fo', gX12_tradeAhead_51, ↓bind_of w4, ↓bind_of g4, if_neg d4]
      rfl
    | some j =>
      have o' : fnd (eTn E) (nI tk.2.1) (eT E) 0 = some j := o
      rw [o'] at fo
      have nj : ¬ nI j = (-1 : Int32) := nI_m1ne (by have := (fnd_some o').2.1; omega)
      have fo' : gX12_found S 309 6 (nI (eT E)) (nI tk.2.1) M = some (nI j) := fo
      simp (disch := first | omega | simp only [qI2, qL2, qC2, qF2]) only [gX12_tradeAhead, ↓mH hS, h24, if_true, s1', gX12_tradeAhead_22, ↓bind_of fr, v, ↓bind_of fo', gX12_tradeAhead_51, if_neg nj, ↓bind_of go, ↓mH hS1, h241]
      rfl
  · have s1' : ¬ M.1 306 22 = 1 := fun e => c2 (s1.1 e)
    have hSw : pMs S (wFm M 1 tk.2.2.1).2.2 := hS
    rw [if_neg c2]
    simp (disch := first | omega | simp only [qI2, qL2, qC2, qF2]) only [gX12_tradeAhead, ↓mH hS, h24, if_true, if_neg s1', ↓bind_of w1, gX12_tradeAhead_22, ↓mH hSw, if_neg d1, gX12_tradeAhead_51, ↓bind_of g1]
    rfl
theorem m_358 (h : mPp S M T n tk E sl sd ln) (ho : tkOk n 0 tk) {M0 : zM} (h1 : M.2.2 = M0.2.2) (h2 : ∀ x y, ¬ mPq x y → M.1 x y = M0.1 x y) : ∃ M', gX12_line_358 S 306 M = some M' ∧ mKr S T n (ln + 1) M0 (finL T n (.inr (tk, E, sl, sd))) M' := by
  obtain ⟨hS, h24, h21, tsv⟩ := mPp_t h
  show ∃ M', gX12_line_358 S 306 M = some M' ∧ mKr S T n (ln + 1) M0 (if tk.1 = 5 then .inr (nxk T n 1 tk, E, sl, sd) else .inl (1, tk.2.2.1)) M'
  have e59 := m_isSgn (x := 59) hS h24 tsv ho (by decide) (by decide)
  have n10 : ¬ (1 : Int32) = 0 := by decide
  have h18 := h.2.1.2.2.2.2
  by_cases c5 : tk.1 = 5
  · have e59' : gX12_isSign S 306 59 M = some 1 := by
      have : gX12_isSign S 306 59 M = _ := e59
      rw [this, decide_eq_true ((sg_x ho).2.2.1.2 c5)]; rfl
    obtain ⟨M1, a1, a2, a3, a4⟩ := mPp_nx h ho
    have hS1 : pMs S M1.2.2 := a2.symm ▸ hS
    have h181 := a4.2.1.2.2.2.2
    rw [if_pos c5]
    refine ⟨zsI M1 306 18 (nI (ln + 1)), ?_, a2.trans h1, fun x y q => by rw [zsI_ne (by unfold mPq at q; omega), a3 x y (by unfold mPq at q; unfold qTk; omega)]; exact h2 x y q, fun f p e => (by cases e), fun tk' E' sl' sd' e => ?_⟩
    · simp (disch := first | omega | simp only [qI2, qL2, qC2, qF2]) only [gX12_line_358, ↓mH hS, h24, if_true, ↓bind_of e59', if_neg n10, ↓bind_of a1, ↓mH hS1, h181, nI_1]
    · cases e
      obtain ⟨⟨h0, t20, t21, tsv⟩, ⟨b1, b2, b3, b4, b5⟩, d, b⟩ := a4
      exact ⟨⟨mTx_cg (fun a b q => zsI_ne (by omega)) h0, (zsI_ne (by omega)).trans t20, (zsI_ne (by omega)).trans t21, by rw [zsI_ne (by omega), zsI_ne (by omega)]; exact tsv⟩, ⟨(zsI_ne (by omega)).trans b1, (zsI_ne (by omega)).trans b2, (zsI_ne (by omega)).trans b3, (zsI_ne (by omega)).trans b4, zsI_at _ _ _ _⟩, mDr_cg (fun x y q => zsI_ne (by unfold mLv at q; omega)) d, mBt_cg (zsI_ne (by omega)) b⟩
  · have e59' : gX12_isSign S 306 59 M = some 0 := by
      have : gX12_isSign S 306 59 M = _ := e59
      rw [this, decide_eq_false (fun e => c5 ((sg_x ho).2.2.1.1 e))]; rfl
    have w1 : gX12_wrong S 306 1 M = some (wFm M 1 tk.2.2.1) := m_wrg h 1
    have hSw : pMs S (wFm M 1 tk.2.2.1).2.2 := hS
    rw [if_neg c5]
    refine ⟨zsI (wFm M 1 tk.2.2.1) 306 18 ((wFm M 1 tk.2.2.1).1 306 18 + 1), ?_, h1, fun x y q => by unfold wFm; rw [zsI_ne (by unfold mPq at q; omega), zsI_ne (by unfold mPq at q; omega), zsI_ne (by unfold mPq at q; omega)]; exact h2 x y q, fun f p e => ?_, fun tk' E' sl' sd' e => by cases e⟩
    · simp (disch := first | omega | simp only [qI2, qL2, qC2, qF2]) only [gX12_line_358, ↓mH hS, h24, if_true, ↓bind_of e59', ↓bind_of w1, ↓mH hSw]
    · cases e
      exact ⟨by omega, by rw [zsI_ne (by omega)]; unfold wFm; rw [zsI_ne (by omega), zsI_at], by rw [zsI_ne (by omega)]; exact zsI_at _ _ _ _⟩
theorem wU {k N c x : Nat} (h : S[k]? = some (100, N)) (hc : c + x < N) (hN : N < 1000) (ρ : Type) (M : zM) (v : Int32) (f : zM → Option ρ) : zbI S M k (nI c + nI x) v f = f (zsI M k (c + x) v) := by
  rw [nI_add]
  exact zbI_ok h hc (by omega)
end ML
