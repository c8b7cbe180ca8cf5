/-! pure part 71: lines: what a text tells so far; the class's small steps -/
def uqA {α : Type} (f : Nat → α) (i : Nat) (v : α) : Nat → α := fun j => if j = i then v else f j
theorem uqA_i {α : Type} {f : Nat → α} {i : Nat} {v : α} : uqA f i v i = v := if_pos rfl
theorem uqA_n {α : Type} {f : Nat → α} {i j : Nat} {v : α} (h : j ≠ i) : uqA f i v j = f j := if_neg h
def pRk (I : Nat → Nat → Int32) (u r kn : Nat) (L : List (Nat × Int32)) : Prop := ∃ b, b + L.length ≤ kn ∧ I (u + 6) r = nI b ∧ I (u + 8) r = nI (b + L.length) ∧ lsP (I (u + 2)) (I (u + 4)) b L
def cD0 (I : Nat → Nat → Int32) (t : Nat) (E : zEn) : Prop := I t 1 = nI (eT E) ∧ I t 5 = nI (eP E) ∧ I t 7 = nI (eC E) ∧ I t 10 = nI (eW E) ∧ I t 15 = nI (eS E) ∧ I t 16 = eD E ∧ I (t + 21) 6 = nI (eK E)
def cD1 (I : Nat → Nat → Int32) (t : Nat) (E : zEn) : Prop := ∀ i, i < eT E → I (t + 2) i = eTn E i ∧ I (t + 4) i = nI (eHr E i) ∧ I (t + 6) i = nI (eMn E i)
def cD2 (I : Nat → Nat → Int32) (t : Nat) (E : zEn) : Prop := ∀ i, i < eP E → I (t + 8) i = nI (eLs E i)
def cD3 (I : Nat → Nat → Int32) (t : Nat) (E : zEn) : Prop := ∃ dt ct : Nat → Nat, (∀ i, i < eC E → I (t + 12) i = nI (dt i) ∧ I (t + 10) i = nI (ct i) ∧ dt i < 100 ∧ eCl E (dt i) = some (ct i)) ∧ ∀ d, (∀ i, i < eC E → dt i ≠ d) → eCl E d = none
def cD4 (I : Nat → Nat → Int32) (t : Nat) (E : zEn) : Prop := ∀ w, w < eW E → I (t + 14) w = eWn E w ∧ I (t + 16) w = eLo E w ∧ I (t + 18) w = eHi E w ∧ I (t + 20) w = nI (eNd E w)
def cD5 (I : Nat → Nat → Int32) (t : Nat) (E : zEn) : Prop := ∀ r, r < 3 → pRk I (t + 21) r (eK E) (eRu E r)
def cDr (I : Nat → Nat → Int32) (t : Nat) (E : zEn) : Prop := cD0 I t E ∧ cD1 I t E ∧ cD2 I t E ∧ cD3 I t E ∧ cD4 I t E ∧ cD5 I t E
theorem cDr_T {I : Nat → Nat → Int32} {t : Nat} {E : zEn} (h : cDr I t E) (wE : wfE E) : pTv I t E := by
  obtain ⟨a, b, c, d, e, f⟩ := h
  refine ⟨a, b, c, d, e, fun r hr => ?_⟩
  obtain ⟨b, h1, h2⟩ := f r hr
  exact ⟨b, Nat.le_trans h1 wE.2.2.2.2.2.1, h2⟩
def cLv (t : Nat) (E : zEn) (x y : Nat) : Prop := (x = t ∧ (y = 1 ∨ y = 5 ∨ y = 7 ∨ y = 10 ∨ y = 15 ∨ y = 16)) ∨ ((x = t + 2 ∨ x = t + 4 ∨ x = t + 6) ∧ y < eT E) ∨ (x = t + 8 ∧ y < eP E) ∨ ((x = t + 10 ∨ x = t + 12) ∧ y < eC E) ∨ ((x = t + 14 ∨ x = t + 16 ∨ x = t + 18 ∨ x = t + 20) ∧ y < eW E) ∨ (x = t + 21 ∧ y = 6) ∨ ((x = t + 27 ∨ x = t + 29) ∧ y < 3) ∨ ((x = t + 23 ∨ x = t + 25) ∧ y < eK E)
theorem lv0 {t : Nat} {E : zEn} {y : Nat} (h : y = 1 ∨ y = 5 ∨ y = 7 ∨ y = 10 ∨ y = 15 ∨ y = 16) : cLv t E t y := Or.inl ⟨rfl, h⟩
theorem lvT {t : Nat} {E : zEn} {x y : Nat} (hx : x = t + 2 ∨ x = t + 4 ∨ x = t + 6) (h : y < eT E) : cLv t E x y := Or.inr (Or.inl ⟨hx, h⟩)
theorem lvP {t : Nat} {E : zEn} {y : Nat} (h : y < eP E) : cLv t E (t + 8) y := Or.inr (Or.inr (Or.inl ⟨rfl, h⟩))
theorem lvC {t : Nat} {E : zEn} {x y : Nat} (hx : x = t + 10 ∨ x = t + 12) (h : y < eC E) : cLv t E x y := Or.inr (Or.inr (Or.inr (Or.inl ⟨hx, h⟩)))
theorem lvW {t : Nat} {E : zEn} {x y : Nat} (hx : x = t + 14 ∨ x = t + 16 ∨ x = t + 18 ∨ x = t + 20) (h : y < eW E) : cLv t E x y := Or.inr (Or.inr (Or.inr (Or.inr (Or.inl ⟨hx, h⟩))))
theorem lv6 {t : Nat} {E : zEn} : cLv t E (t + 21) 6 := Or.inr (Or.inr (Or.inr (Or.inr (Or.inr (Or.inl ⟨rfl, rfl⟩)))))
theorem lvR {t : Nat} {E : zEn} {x y : Nat} (hx : x = t + 27 ∨ x = t + 29) (h : y < 3) : cLv t E x y := Or.inr (Or.inr (Or.inr (Or.inr (Or.inr (Or.inr (Or.inl ⟨hx, h⟩))))))
theorem lvK {t : Nat} {E : zEn} {x y : Nat} (hx : x = t + 23 ∨ x = t + 25) (h : y < eK E) : cLv t E x y := Or.inr (Or.inr (Or.inr (Or.inr (Or.inr (Or.inr (Or.inr ⟨hx, h⟩))))))
theorem pRk_cg {I I' : Nat → Nat → Int32} {u r kn kn' : Nat} {L : List (Nat × Int32)} (hk : kn ≤ kn') (h1' : I' (u + 6) r = I (u + 6) r) (h2' : I' (u + 8) r = I (u + 8) r) (h3' : ∀ y, y < kn → I' (u + 2) y = I (u + 2) y ∧ I' (u + 4) y = I (u + 4) y) (hp : pRk I u r kn L) : pRk I' u r kn' L := by
  obtain ⟨b, h1, h2, h3, h4⟩ := hp
  exact ⟨b, by omega, h1'.trans h2, h2'.trans h3, lsP_cg (fun j k1 k2 => h3' j (by omega)) h4⟩
section CG
variable {I I' : Nat → Nat → Int32} {t : Nat} {E : zEn}
theorem cD1_cg (h : ∀ x y, (x = t + 2 ∨ x = t + 4 ∨ x = t + 6) → y < eT E → I' x y = I x y) (hD : cD1 I t E) : cD1 I' t E := fun i hi => ⟨(h _ _ (Or.inl rfl) hi).trans (hD i hi).1, (h _ _ (Or.inr (Or.inl rfl)) hi).trans (hD i hi).2.1, (h _ _ (Or.inr (Or.inr rfl)) hi).trans (hD i hi).2.2⟩
theorem cD2_cg (h : ∀ y, y < eP E → I' (t + 8) y = I (t + 8) y) (hD : cD2 I t E) : cD2 I' t E := fun i hi => (h _ hi).trans (hD i hi)
theorem cD3_cg (h : ∀ x y, (x = t + 10 ∨ x = t + 12) → y < eC E → I' x y = I x y) (hD : cD3 I t E) : cD3 I' t E := by
  obtain ⟨dt, ct, d1, d2⟩ := hD
  exact ⟨dt, ct, fun i hi => ⟨(h _ _ (Or.inr rfl) hi).trans (d1 i hi).1, (h _ _ (Or.inl rfl) hi).trans (d1 i hi).2.1, (d1 i hi).2.2⟩, d2⟩
theorem cD4_cg (h : ∀ x y, (x = t + 14 ∨ x = t + 16 ∨ x = t + 18 ∨ x = t + 20) → y < eW E → I' x y = I x y) (hD : cD4 I t E) : cD4 I' t E := fun i hi => ⟨(h _ _ (Or.inl rfl) hi).trans (hD i hi).1, (h _ _ (Or.inr (Or.inl rfl)) hi).trans (hD i hi).2.1, (h _ _ (Or.inr (Or.inr (Or.inl rfl))) hi).trans (hD i hi).2.2.1, (h _ _ (Or.inr (Or.inr (Or.inr rfl))) hi).trans (hD i hi).2.2.2⟩
theorem cD5_cg (h1 : ∀ x y, (x = t + 27 ∨ x = t + 29) → y < 3 → I' x y = I x y) (h2 : ∀ x y, (x = t + 23 ∨ x = t + 25) → y < eK E → I' x y = I x y) (hD : cD5 I t E) : cD5 I' t E := fun r hr => pRk_cg (Nat.le_refl _) (h1 _ _ (Or.inl rfl) hr) (h1 _ _ (Or.inr rfl) hr) (fun y hy => ⟨h2 _ _ (Or.inl rfl) hy, h2 _ _ (Or.inr rfl) hy⟩) (hD r hr)
theorem cD0_cg (h : ∀ y, (y = 1 ∨ y = 5 ∨ y = 7 ∨ y = 10 ∨ y = 15 ∨ y = 16) → I' t y = I t y) (h6 : I' (t + 21) 6 = I (t + 21) 6) (hD : cD0 I t E) : cD0 I' t E := by
  obtain ⟨a1, a2, a3, a4, a5, a6, a7⟩ := hD
  exact ⟨(h 1 (by omega)).trans a1, (h 5 (by omega)).trans a2, (h 7 (by omega)).trans a3, (h 10 (by omega)).trans a4, (h 15 (by omega)).trans a5, (h 16 (by omega)).trans a6, h6.trans a7⟩
theorem cDr_cg (h : ∀ x y, cLv t E x y → I' x y = I x y) (hD : cDr I t E) : cDr I' t E := by
  obtain ⟨a, b, c, d, e, f⟩ := hD
  exact ⟨cD0_cg (fun y hy => h _ _ (lv0 hy)) (h _ _ lv6) a, cD1_cg (fun x y hx hy => h _ _ (lvT hx hy)) b, cD2_cg (fun y hy => h _ _ (lvP hy)) c, cD3_cg (fun x y hx hy => h _ _ (lvC hx hy)) d, cD4_cg (fun x y hx hy => h _ _ (lvW hx hy)) e, cD5_cg (fun x y hx hy => h _ _ (lvR hx hy)) (fun x y hx hy => h _ _ (lvK hx hy)) f⟩
end CG
def adT (E : zEn) (nm : Int32) (h m : Nat) : zEn := ((eT E + 1, eP E, eC E, eW E, eS E, eK E, eD E), uqA (eTn E) (eT E) nm, eWn E, uqA (eHr E) (eT E) h, uqA (eMn E) (eT E) m, eLs E, eCl E, eLo E, eHi E, eNd E, eRu E)
def adP (E : zEn) (j : Nat) : zEn := ((eT E, eP E + 1, eC E, eW E, eS E, eK E, eD E), eTn E, eWn E, eHr E, eMn E, uqA (eLs E) (eP E) j, eCl E, eLo E, eHi E, eNd E, eRu E)
def adC (E : zEn) (d j : Nat) : zEn := ((eT E, eP E, eC E + 1, eW E, eS E, eK E, eD E), eTn E, eWn E, eHr E, eMn E, eLs E, uqA (eCl E) d (some j), eLo E, eHi E, eNd E, eRu E)
def adW (E : zEn) (nm : Int32) (lo hi nd : Nat) : zEn := ((eT E, eP E, eC E, eW E + 1, eS E, eK E, eD E), eTn E, uqA (eWn E) (eW E) nm, eHr E, eMn E, eLs E, eCl E, uqA (eLo E) (eW E) (nI lo), uqA (eHi E) (eW E) (nI hi), uqA (eNd E) (eW E) nd, eRu E)
def adS (E : zEn) (s : Nat) : zEn := ((eT E, eP E, eC E, eW E, s, eK E, eD E), eTn E, eWn E, eHr E, eMn E, eLs E, eCl E, eLo E, eHi E, eNd E, eRu E)
def adD (E : zEn) (s : Int32) : zEn := ((eT E, eP E, eC E, eW E, eS E, eK E, s), eTn E, eWn E, eHr E, eMn E, eLs E, eCl E, eLo E, eHi E, eNd E, eRu E)
def adR (E : zEn) (r : Nat) (L : List (Nat × Int32)) : zEn := ((eT E, eP E, eC E, eW E, eS E, eK E + L.length, eD E), eTn E, eWn E, eHr E, eMn E, eLs E, eCl E, eLo E, eHi E, eNd E, uqA (eRu E) r L)
def E00 : zEn := ((0, 0, 0, 0, 0, 0, 0), fun _ => 0, fun _ => 0, fun _ => 0, fun _ => 0, fun _ => 0, fun _ => none, fun _ => 0, fun _ => 0, fun _ => 0, fun _ => [])
theorem wf_00 : wfE E00 := ⟨by decide, by decide, by decide, by decide, by decide, by decide, by decide, fun t h => absurd h (Nat.not_lt_zero _), fun t h => absurd h (Nat.not_lt_zero _), fun t h => absurd h (Nat.not_lt_zero _), fun d t h => (by cases h), fun w h => absurd h (Nat.not_lt_zero _), fun r _ h => absurd rfl h⟩
theorem wf_adT {E : zEn} {nm : Int32} {h m : Nat} (w : wfE E) (hT : eT E < 6) (hh : h ≤ 23) (hm : m ≤ 9) : wfE (adT E nm h m) := by
  obtain ⟨a1, a2, a3, a4, a5, a6, a7, a8, a9, a10, a11, a12, a13⟩ := w
  refine ⟨hT, a2, a3, a4, a5, a6, a7, fun t ht => ?_, fun t ht => ?_, fun p hp => Nat.lt_succ_of_lt (a10 p hp), fun d t h => ⟨Nat.lt_succ_of_lt (a11 d t h).1, (a11 d t h).2⟩, a12, a13⟩
  · show uqA (eHr E) (eT E) h t ≤ 23
    have ht' : t < eT E + 1 := ht
    by_cases e : t = eT E
    · rw [e, uqA_i]; exact hh
    · rw [uqA_n e]; exact a8 t (by omega)
  · show uqA (eMn E) (eT E) m t ≤ 9
    have ht' : t < eT E + 1 := ht
    by_cases e : t = eT E
    · rw [e, uqA_i]; exact hm
    · rw [uqA_n e]; exact a9 t (by omega)
theorem wf_adP {E : zEn} {j : Nat} (w : wfE E) (hP : eP E < 12) (hj : j < eT E) : wfE (adP E j) := by
  obtain ⟨a1, a2, a3, a4, a5, a6, a7, a8, a9, a10, a11, a12, a13⟩ := w
  refine ⟨a1, hP, a3, a4, a5, a6, a7, a8, a9, fun p hp => ?_, a11, a12, a13⟩
  show uqA (eLs E) (eP E) j p < eT E
  have hp' : p < eP E + 1 := hp
  by_cases e : p = eP E
  · rw [e, uqA_i]; exact hj
  · rw [uqA_n e]; exact a10 p (by omega)
theorem wf_adC {E : zEn} {d j : Nat} (w : wfE E) (hC : eC E < 10) (hj : j < eT E) (hd : d < 100) : wfE (adC E d j) := by
  obtain ⟨a1, a2, a3, a4, a5, a6, a7, a8, a9, a10, a11, a12, a13⟩ := w
  refine ⟨a1, a2, hC, a4, a5, a6, a7, a8, a9, a10, fun x t h => ?_, a12, a13⟩
  have h' : uqA (eCl E) d (some j) x = some t := h
  by_cases e : x = d
  · rw [e, uqA_i] at h'
    cases h'
    exact ⟨hj, by omega⟩
  · rw [uqA_n e] at h'
    exact a11 x t h'
theorem wf_adW {E : zEn} {nm : Int32} {lo hi nd : Nat} (w : wfE E) (hW : eW E < 5) (h1 : 1 ≤ nd) (h2 : nd ≤ 9) : wfE (adW E nm lo hi nd) := by
  obtain ⟨a1, a2, a3, a4, a5, a6, a7, a8, a9, a10, a11, a12, a13⟩ := w
  refine ⟨a1, a2, a3, hW, a5, a6, a7, a8, a9, a10, a11, fun w hw => ?_, a13⟩
  show 1 ≤ uqA (eNd E) (eW E) nd w ∧ uqA (eNd E) (eW E) nd w ≤ 9
  have hw' : w < eW E + 1 := hw
  by_cases e : w = eW E
  · rw [e, uqA_i]; exact ⟨h1, h2⟩
  · rw [uqA_n e]; exact a12 w (by omega)
theorem wf_adS {E : zEn} {s : Nat} (w : wfE E) (h : s ≤ 100) : wfE (adS E s) := by
  obtain ⟨a1, a2, a3, a4, a5, a6, a7, a8, a9, a10, a11, a12, a13⟩ := w
  exact ⟨a1, a2, a3, a4, h, a6, a7, a8, a9, a10, a11, a12, a13⟩
theorem wf_adD {E : zEn} {s : Int32} (w : wfE E) (h : ¬ s < 0) : wfE (adD E s) := by
  obtain ⟨a1, a2, a3, a4, a5, a6, a7, a8, a9, a10, a11, a12, a13⟩ := w
  exact ⟨a1, a2, a3, a4, a5, a6, h, a8, a9, a10, a11, a12, a13⟩
theorem wf_adR {E : zEn} {r : Nat} {L : List (Nat × Int32)} (w : wfE E) (h : eK E + L.length ≤ 64) (hd : dep L 0 = some 1) : wfE (adR E r L) := by
  obtain ⟨a1, a2, a3, a4, a5, a6, a7, a8, a9, a10, a11, a12, a13⟩ := w
  refine ⟨a1, a2, a3, a4, a5, h, a7, a8, a9, a10, a11, a12, fun x hx hn => ?_⟩
  have hn' : uqA (eRu E) r L x ≠ [] := hn
  show dep (uqA (eRu E) r L x) 0 = some 1
  by_cases e : x = r
  · rw [e, uqA_i]; exact hd
  · rw [uqA_n e] at hn' ⊢; exact a13 x hx hn'
section ADD
variable {I I' : Nat → Nat → Int32} {t : Nat} {E : zEn}
theorem cDr_T1 {nm : Int32} {h m : Nat} (hD : cDr I t E) (hI : ∀ x y, cLv t E x y → ¬ (x = t ∧ y = 1) → I' x y = I x y) (h1 : I' t 1 = nI (eT E + 1)) (h2 : I' (t + 2) (eT E) = nm) (h3 : I' (t + 4) (eT E) = nI h) (h4 : I' (t + 6) (eT E) = nI m) : cDr I' t (adT E nm h m) := by
  obtain ⟨⟨a1, a2, a3, a4, a5, a6, a7⟩, b, c, d, e, f⟩ := hD
  refine ⟨⟨h1, (hI _ _ (lv0 (by omega)) (by omega)).trans a2, (hI _ _ (lv0 (by omega)) (by omega)).trans a3, (hI _ _ (lv0 (by omega)) (by omega)).trans a4, (hI _ _ (lv0 (by omega)) (by omega)).trans a5, (hI _ _ (lv0 (by omega)) (by omega)).trans a6, (hI _ _ lv6 (by omega)).trans a7⟩, fun i hi => ?_, cD2_cg (fun y hy => hI _ _ (lvP hy) (by omega)) c, cD3_cg (fun x y hx hy => hI _ _ (lvC hx hy) (by omega)) d, cD4_cg (fun x y hx hy => hI _ _ (lvW hx hy) (by omega)) e, cD5_cg (fun x y hx hy => hI _ _ (lvR hx hy) (by omega)) (fun x y hx hy => hI _ _ (lvK hx hy) (by omega)) f⟩
  show I' (t + 2) i = uqA (eTn E) (eT E) nm i ∧ I' (t + 4) i = nI (uqA (eHr E) (eT E) h i) ∧ I' (t + 6) i = nI (uqA (eMn E) (eT E) m i)
  have hi' : i < eT E + 1 := hi
  by_cases q : i = eT E
  · rw [q, uqA_i, uqA_i, uqA_i]; exact ⟨h2, h3, h4⟩
  · have hi2 : i < eT E := by omega
    rw [uqA_n q, uqA_n q, uqA_n q, hI _ _ (lvT (Or.inl rfl) hi2) (by omega), hI _ _ (lvT (Or.inr (Or.inl rfl)) hi2) (by omega), hI _ _ (lvT (Or.inr (Or.inr rfl)) hi2) (by omega)]; exact b i hi2
theorem cDr_P1 {j : Nat} (hD : cDr I t E) (hI : ∀ x y, cLv t E x y → ¬ (x = t ∧ y = 5) → I' x y = I x y) (h1 : I' t 5 = nI (eP E + 1)) (h2 : I' (t + 8) (eP E) = nI j) : cDr I' t (adP E j) := by
  obtain ⟨⟨a1, a2, a3, a4, a5, a6, a7⟩, b, c, d, e, f⟩ := hD
  refine ⟨⟨(hI _ _ (lv0 (by omega)) (by omega)).trans a1, h1, (hI _ _ (lv0 (by omega)) (by omega)).trans a3, (hI _ _ (lv0 (by omega)) (by omega)).trans a4, (hI _ _ (lv0 (by omega)) (by omega)).trans a5, (hI _ _ (lv0 (by omega)) (by omega)).trans a6, (hI _ _ lv6 (by omega)).trans a7⟩, cD1_cg (fun x y hx hy => hI _ _ (lvT hx hy) (by omega)) b, fun i hi => ?_, cD3_cg (fun x y hx hy => hI _ _ (lvC hx hy) (by omega)) d, cD4_cg (fun x y hx hy => hI _ _ (lvW hx hy) (by omega)) e, cD5_cg (fun x y hx hy => hI _ _ (lvR hx hy) (by omega)) (fun x y hx hy => hI _ _ (lvK hx hy) (by omega)) f⟩
  show I' (t + 8) i = nI (uqA (eLs E) (eP E) j i)
  have hi' : i < eP E + 1 := hi
  by_cases q : i = eP E
  · rw [q, uqA_i]; exact h2
  · have hi2 : i < eP E := by omega
    rw [uqA_n q, hI _ _ (lvP hi2) (by omega)]; exact c i hi2
theorem cDr_C1 {d j : Nat} (hD : cDr I t E) (hd : d < 100) (hn : eCl E d = none) (hI : ∀ x y, cLv t E x y → ¬ (x = t ∧ y = 7) → I' x y = I x y) (h1 : I' t 7 = nI (eC E + 1)) (h2 : I' (t + 12) (eC E) = nI d) (h3 : I' (t + 10) (eC E) = nI j) : cDr I' t (adC E d j) := by
  obtain ⟨⟨a1, a2, a3, a4, a5, a6, a7⟩, b, c, ⟨dt, ct, d1, d2⟩, e, f⟩ := hD
  refine ⟨⟨(hI _ _ (lv0 (by omega)) (by omega)).trans a1, (hI _ _ (lv0 (by omega)) (by omega)).trans a2, h1, (hI _ _ (lv0 (by omega)) (by omega)).trans a4, (hI _ _ (lv0 (by omega)) (by omega)).trans a5, (hI _ _ (lv0 (by omega)) (by omega)).trans a6, (hI _ _ lv6 (by omega)).trans a7⟩, cD1_cg (fun x y hx hy => hI _ _ (lvT hx hy) (by omega)) b, cD2_cg (fun y hy => hI _ _ (lvP hy) (by omega)) c, ⟨uqA dt (eC E) d, uqA ct (eC E) j, fun i hi => ?_, fun x hx => ?_⟩, cD4_cg (fun x y hx hy => hI _ _ (lvW hx hy) (by omega)) e, cD5_cg (fun x y hx hy => hI _ _ (lvR hx hy) (by omega)) (fun x y hx hy => hI _ _ (lvK hx hy) (by omega)) f⟩
  · show I' (t + 12) i = nI (uqA dt (eC E) d i) ∧ I' (t + 10) i = nI (uqA ct (eC E) j i) ∧ uqA dt (eC E) d i < 100 ∧ uqA (eCl E) d (some j) (uqA dt (eC E) d i) = some (uqA ct (eC E) j i)
    have hi' : i < eC E + 1 := hi
    by_cases q : i = eC E
    · rw [q, uqA_i, uqA_i, uqA_i]; exact ⟨h2, h3, hd, rfl⟩
    · have hi2 : i < eC E := by omega
      obtain ⟨k1, k2, k3, k4⟩ := d1 i hi2
      have ne : dt i ≠ d := fun h => by rw [h, hn] at k4; cases k4
      rw [uqA_n q, uqA_n q, uqA_n ne, hI _ _ (lvC (Or.inr rfl) hi2) (by omega), hI _ _ (lvC (Or.inl rfl) hi2) (by omega)]; exact ⟨k1, k2, k3, k4⟩
  · show uqA (eCl E) d (some j) x = none
    have hl := hx (eC E) (Nat.lt_succ_self _)
    rw [uqA_i] at hl
    rw [uqA_n (fun h => hl h.symm)]
    refine d2 x (fun i hi => ?_)
    have := hx i (Nat.lt_succ_of_lt hi)
    rw [uqA_n (by omega)] at this
    exact this
theorem cDr_W1 {nm : Int32} {lo hi nd : Nat} (hD : cDr I t E) (hI : ∀ x y, cLv t E x y → ¬ (x = t ∧ y = 10) → I' x y = I x y) (h1 : I' t 10 = nI (eW E + 1)) (h2 : I' (t + 14) (eW E) = nm) (h3 : I' (t + 16) (eW E) = nI lo) (h4 : I' (t + 18) (eW E) = nI hi) (h5 : I' (t + 20) (eW E) = nI nd) : cDr I' t (adW E nm lo hi nd) := by
  obtain ⟨⟨a1, a2, a3, a4, a5, a6, a7⟩, b, c, d, e, f⟩ := hD
  refine ⟨⟨(hI _ _ (lv0 (by omega)) (by omega)).trans a1, (hI _ _ (lv0 (by omega)) (by omega)).trans a2, (hI _ _ (lv0 (by omega)) (by omega)).trans a3, h1, (hI _ _ (lv0 (by omega)) (by omega)).trans a5, (hI _ _ (lv0 (by omega)) (by omega)).trans a6, (hI _ _ lv6 (by omega)).trans a7⟩, cD1_cg (fun x y hx hy => hI _ _ (lvT hx hy) (by omega)) b, cD2_cg (fun y hy => hI _ _ (lvP hy) (by omega)) c, cD3_cg (fun x y hx hy => hI _ _ (lvC hx hy) (by omega)) d, fun w hw => ?_, cD5_cg (fun x y hx hy => hI _ _ (lvR hx hy) (by omega)) (fun x y hx hy => hI _ _ (lvK hx hy) (by omega)) f⟩
  show I' (t + 14) w = uqA (eWn E) (eW E) nm w ∧ I' (t + 16) w = uqA (eLo E) (eW E) (nI lo) w ∧ I' (t + 18) w = uqA (eHi E) (eW E) (nI hi) w ∧ I' (t + 20) w = nI (uqA (eNd E) (eW E) nd w)
  have hw' : w < eW E + 1 := hw
  by_cases q : w = eW E
  · rw [q, uqA_i, uqA_i, uqA_i, uqA_i]; exact ⟨h2, h3, h4, h5⟩
  · have hw2 : w < eW E := by omega
    rw [uqA_n q, uqA_n q, uqA_n q, uqA_n q, hI _ _ (lvW (Or.inl rfl) hw2) (by omega), hI _ _ (lvW (Or.inr (Or.inl rfl)) hw2) (by omega), hI _ _ (lvW (Or.inr (Or.inr (Or.inl rfl))) hw2) (by omega), hI _ _ (lvW (Or.inr (Or.inr (Or.inr rfl))) hw2) (by omega)]; exact e w hw2
theorem cDr_S1 {s : Nat} (hD : cDr I t E) (hI : ∀ x y, cLv t E x y → ¬ (x = t ∧ y = 15) → I' x y = I x y) (h1 : I' t 15 = nI s) : cDr I' t (adS E s) := by
  obtain ⟨⟨a1, a2, a3, a4, a5, a6, a7⟩, b, c, d, e, f⟩ := hD
  exact ⟨⟨(hI _ _ (lv0 (by omega)) (by omega)).trans a1, (hI _ _ (lv0 (by omega)) (by omega)).trans a2, (hI _ _ (lv0 (by omega)) (by omega)).trans a3, (hI _ _ (lv0 (by omega)) (by omega)).trans a4, h1, (hI _ _ (lv0 (by omega)) (by omega)).trans a6, (hI _ _ lv6 (by omega)).trans a7⟩, cD1_cg (fun x y hx hy => hI _ _ (lvT hx hy) (by omega)) b, cD2_cg (fun y hy => hI _ _ (lvP hy) (by omega)) c, cD3_cg (fun x y hx hy => hI _ _ (lvC hx hy) (by omega)) d, cD4_cg (fun x y hx hy => hI _ _ (lvW hx hy) (by omega)) e, cD5_cg (fun x y hx hy => hI _ _ (lvR hx hy) (by omega)) (fun x y hx hy => hI _ _ (lvK hx hy) (by omega)) f⟩
theorem cDr_D1 {s : Int32} (hD : cDr I t E) (hI : ∀ x y, cLv t E x y → ¬ (x = t ∧ y = 16) → I' x y = I x y) (h1 : I' t 16 = s) : cDr I' t (adD E s) := by
  obtain ⟨⟨a1, a2, a3, a4, a5, a6, a7⟩, b, c, d, e, f⟩ := hD
  exact ⟨⟨(hI _ _ (lv0 (by omega)) (by omega)).trans a1, (hI _ _ (lv0 (by omega)) (by omega)).trans a2, (hI _ _ (lv0 (by omega)) (by omega)).trans a3, (hI _ _ (lv0 (by omega)) (by omega)).trans a4, (hI _ _ (lv0 (by omega)) (by omega)).trans a5, h1, (hI _ _ lv6 (by omega)).trans a7⟩, cD1_cg (fun x y hx hy => hI _ _ (lvT hx hy) (by omega)) b, cD2_cg (fun y hy => hI _ _ (lvP hy) (by omega)) c, cD3_cg (fun x y hx hy => hI _ _ (lvC hx hy) (by omega)) d, cD4_cg (fun x y hx hy => hI _ _ (lvW hx hy) (by omega)) e, cD5_cg (fun x y hx hy => hI _ _ (lvR hx hy) (by omega)) (fun x y hx hy => hI _ _ (lvK hx hy) (by omega)) f⟩
theorem cDr_R1 {r : Nat} {L : List (Nat × Int32)} (hD : cDr I t E) (hI : ∀ x y, cLv t E x y → ¬ (x = t + 21 ∧ y = 6) → ¬ ((x = t + 27 ∨ x = t + 29) ∧ y = r) → I' x y = I x y) (h1 : I' (t + 21) 6 = nI (eK E + L.length)) (h2 : I' (t + 27) r = nI (eK E)) (h3 : I' (t + 29) r = nI (eK E + L.length)) (h4 : lsP (I' (t + 23)) (I' (t + 25)) (eK E) L) : cDr I' t (adR E r L) := by
  obtain ⟨⟨a1, a2, a3, a4, a5, a6, a7⟩, b, c, d, e, f⟩ := hD
  refine ⟨⟨(hI _ _ (lv0 (by omega)) (by omega) (by omega)).trans a1, (hI _ _ (lv0 (by omega)) (by omega) (by omega)).trans a2, (hI _ _ (lv0 (by omega)) (by omega) (by omega)).trans a3, (hI _ _ (lv0 (by omega)) (by omega) (by omega)).trans a4, (hI _ _ (lv0 (by omega)) (by omega) (by omega)).trans a5, (hI _ _ (lv0 (by omega)) (by omega) (by omega)).trans a6, h1⟩, cD1_cg (fun x y hx hy => hI _ _ (lvT hx hy) (by omega) (by omega)) b, cD2_cg (fun y hy => hI _ _ (lvP hy) (by omega) (by omega)) c, cD3_cg (fun x y hx hy => hI _ _ (lvC hx hy) (by omega) (by omega)) d, cD4_cg (fun x y hx hy => hI _ _ (lvW hx hy) (by omega) (by omega)) e, fun x hx => ?_⟩
  show pRk I' (t + 21) x (eK E + L.length) (uqA (eRu E) r L x)
  by_cases q : x = r
  · rw [q, uqA_i]
    exact ⟨eK E, Nat.le_refl _, h2, h3, h4⟩
  · rw [uqA_n q]
    exact pRk_cg (Nat.le_add_right _ _) (hI _ _ (lvR (Or.inl rfl) hx) (by omega) (by omega)) (hI _ _ (lvR (Or.inr rfl) hx) (by omega) (by omega)) (fun y hy => ⟨hI _ _ (lvK (Or.inl rfl) hy) (by omega) (by omega), hI _ _ (lvK (Or.inr rfl) hy) (by omega) (by omega)⟩) (f x hx)
end ADD
