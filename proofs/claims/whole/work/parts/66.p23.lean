/-! pure part 23: the invariant -/
abbrev zStp : Type := Nat × (Nat → Nat → Nat) × (Nat → Option Nat)
abbrev zNot : Type := Nat × Option Nat × (Nat → Nat) × (Nat → Nat) × (Nat → Nat)
abbrev zAb : Type := Nat × zEn × zKa × Int32 × Option (zKa × Int32) × zStp × zNot × (Nat × (Nat → Int32)) × (Nat × Int32)
def isI {α : Type} : Option α → Int32 := fun o => match o with | none => 0 | some _ => 1
def setLA (K : zKa) (l : Nat → Nat) (a : Option Nat) : zKa := (K.1, a, kBy K, kKn K, kOp K, l, kWt K)
def cIm (I : Nat → Nat → Int32) (E : zEn) (im : Option (zKa × Int32)) : Prop := I 0 8 = isI im ∧ ∀ q, im = some q → pSv I 125 E q.1 q.2
def cSt (I : Nat → Nat → Int32) (E : zEn) (st : zStp) : Prop := I 182 1 = nI st.1 ∧ ∀ j, j < st.1 → (∀ p, p < eP E → I 184 (13 * j + p) = nI (st.2.1 j p)) ∧ I 184 (13 * j + 12) = oI (st.2.2 j)
def cNo (I : Nat → Nat → Int32) (no : zNot) : Prop := I 169 6 = nI no.1 ∧ I 169 7 = oI no.2.1 ∧ ∀ j, j < no.1 → I 171 j = nI (no.2.2.1 j) ∧ I 173 j = nI (no.2.2.2.1 j) ∧ I 175 j = nI (no.2.2.2.2 j)
def cTp (I : Nat → Nat → Int32) (tp : Nat × (Nat → Int32)) : Prop := I 0 1 = nI tp.1 ∧ ∀ j, j < tp.1 → I 2 j = tp.2 j
def wdC (j : Nat) : Nat := [690000032, 693712896, 113288608, 788081664, 650428416, 642945024, 404455424, 408362632, 202806272, 781594624, 522190848, 48365568, 486146048, 284870656, 437729458, 384294336, 520272036, 408113152, 404344832, 135926784].getD j 0
def cWd (I : Nat → Nat → Int32) : Prop := ∀ j, j < 20 → I 6 j = nI (wdC j)
def cFl (I : Nat → Nat → Int32) (fl : Nat × Int32) : Prop := I 3 2 = nI fl.1 ∧ I 3 3 = fl.2 ∧ cWd I
def cIx (S : List (Nat × Nat)) (M : zM) (t : Nat) (E : zEn) (K : zKa) (le : Int32) (im : Option (zKa × Int32)) (st : zStp) (no : zNot) (tp : Nat × (Nat → Int32)) (fl : Nat × Int32) : Prop := (zShp S ∧ pRf M.2.2 ∧ (t = 43 ∨ t = 75) ∧ M.2.2 0 3 = some t ∧ M.2.2 0 4 = some (118 - t)) ∧ pTv M.1 t E ∧ pSv M.1 107 E K le ∧ cIm M.1 E im ∧ cSt M.1 E st ∧ cNo M.1 no ∧ cTp M.1 tp ∧ cFl M.1 fl
def mIm (I : Nat → Nat → Int32) (E : zEn) (im : Option (zKa × Int32)) : Prop := I 306 45 = isI im ∧ ∀ q, im = some q → pMk I 2 E q.1
def mSt (I : Nat → Nat → Int32) (E : zEn) (K : zKa) (st : zStp) : Prop := I 306 46 = nI st.1 ∧ ∀ j, j < st.1 → pMk I (3 + j) E (setLA K (st.2.1 j) (st.2.2 j))
def mNo (I : Nat → Nat → Int32) (no : zNot) : Prop := I 306 58 = nI no.1 ∧ I 306 59 = oI no.2.1 ∧ ∀ j, j < no.1 → I 345 j = (if no.2.2.1 j = 2 then nI (no.2.2.2.1 j) else -1) ∧ (no.2.2.1 j ≠ 2 → I 342 j = nI (no.2.2.2.1 j) ∧ I 343 j = nI (no.2.2.2.2 j) ∧ I 344 j = (if no.2.2.1 j = 0 then 1 else 0))
def mTp (I : Nat → Nat → Int32) (tp : Nat × (Nat → Int32)) : Prop := I 306 2 = nI tp.1 ∧ ∀ j, j < tp.1 → I 307 j = tp.2 j
def mFl (I : Nat → Nat → Int32) (fl : Nat × Int32) : Prop := I 306 26 = nI fl.1 ∧ I 306 27 = (if fl.1 = 0 then -1 else fl.2)
def mMd (I : Nat → Nat → Int32) : Prop := I 306 47 = 0 ∧ I 306 48 = -1 ∧ I 306 49 = -1
def mIx (S : List (Nat × Nat)) (M : zM) (E : zEn) (K : zKa) (im : Option (zKa × Int32)) (st : zStp) (no : zNot) (tp : Nat × (Nat → Int32)) (fl : Nat × Int32) : Prop := pMs S M.2.2 ∧ pME M.1 E ∧ pMk M.1 0 E K ∧ mIm M.1 E im ∧ mSt M.1 E K st ∧ mNo M.1 no ∧ mTp M.1 tp ∧ mFl M.1 fl ∧ mMd M.1
def noW (no : zNot) : Prop := no.1 ≤ 24 ∧ (∀ b, no.2.1 = some b → b ≤ no.1) ∧ ∀ j, j < no.1 → no.2.2.1 j ≤ 2 ∧ (no.2.2.1 j = 2 → no.2.2.2.1 j < j) ∧ (no.2.2.1 j ≠ 2 → 1 ≤ no.2.2.2.1 j ∧ no.2.2.2.1 j ≤ 60) ∧ no.2.2.2.2 j ≤ 24
def stW (E : zEn) (st : zStp) : Prop := st.1 ≤ 20 ∧ ∀ j, j < st.1 → (∀ p, p < eP E → st.2.1 j p < eT E) ∧ ∀ a, st.2.2 j = some a → a < eT E
def tpW (tp : Nat × (Nat → Int32)) : Prop := tp.1 ≤ 700 ∧ ∀ j, j < tp.1 → ∃ b, b < 256 ∧ tp.2 j = nI b
def aWx (E : zEn) (K : zKa) (im : Option (zKa × Int32)) (st : zStp) (no : zNot) (tp : Nat × (Nat → Int32)) (fl : Nat × Int32) : Prop := wfE E ∧ wfK E K 9800 ∧ (∀ q, im = some q → wfK E q.1 9800) ∧ stW E st ∧ noW no ∧ tpW tp ∧ fl.1 ≤ 4
def cI (S : List (Nat × Nat)) (M : zM) (A : zAb) : Prop := cIx S M A.1 A.2.1 A.2.2.1 A.2.2.2.1 A.2.2.2.2.1 A.2.2.2.2.2.1 A.2.2.2.2.2.2.1 A.2.2.2.2.2.2.2.1 A.2.2.2.2.2.2.2.2
def mI (S : List (Nat × Nat)) (M : zM) (A : zAb) : Prop := mIx S M A.2.1 A.2.2.1 A.2.2.2.2.1 A.2.2.2.2.2.1 A.2.2.2.2.2.2.1 A.2.2.2.2.2.2.2.1 A.2.2.2.2.2.2.2.2
def aW (A : zAb) : Prop := aWx A.2.1 A.2.2.1 A.2.2.2.2.1 A.2.2.2.2.2.1 A.2.2.2.2.2.2.1 A.2.2.2.2.2.2.2.1 A.2.2.2.2.2.2.2.2
def zInv (S : List (Nat × Nat)) (M : zM) : Prop := ∃ A : zAb, aW A ∧ cI S M A ∧ mI S M A
def cQ (a b : Nat) : Prop := (116 ≤ a ∧ a ≤ 124) ∨ (134 ≤ a ∧ a ≤ 168) ∨ a = 177 ∨ a = 179 ∨ a = 181 ∨ (a = 169 ∧ 8 ≤ b) ∨ (185 ≤ a ∧ a ≤ 305)
def mQ (a b : Nat) : Prop := (a = 306 ∧ (b = 0 ∨ b = 32 ∨ b = 50 ∨ b = 55)) ∨ (324 ≤ a ∧ a ≤ 331 ∧ (b = 1 ∨ 23 ≤ b)) ∨ ((a = 332 ∨ a = 333) ∧ ((6 ≤ b ∧ b < 12) ∨ 138 ≤ b)) ∨ (a = 334 ∧ ((12 ≤ b ∧ b < 24) ∨ 276 ≤ b)) ∨ (a = 335 ∧ ((5 ≤ b ∧ b < 10) ∨ 115 ≤ b)) ∨ (336 ≤ a ∧ a ≤ 341) ∨ a = 346 ∨ a = 347
def cFr (M M' : zM) : Prop := (∀ a b, ¬ cQ a b → M'.1 a b = M.1 a b) ∧ pRf M'.2.2 ∧ M'.2.2 0 3 = M.2.2 0 3 ∧ M'.2.2 0 4 = M.2.2 0 4
def mX (M M' : zM) : Prop := M'.2.2 = M.2.2 ∧ ∀ a b, a < 306 → M'.1 a b = M.1 a b
def cX (M M' : zM) : Prop := ∀ a b, 306 ≤ a → M'.1 a b = M.1 a b
theorem cI_cg {S : List (Nat × Nat)} {M M' : zM} {A : zAb} (h : ∀ a b, a < 306 → ¬ cQ a b → M'.1 a b = M.1 a b) (h1 : pRf M'.2.2) (h2 : M'.2.2 0 3 = M.2.2 0 3) (h3 : M'.2.2 0 4 = M.2.2 0 4) (hI : cI S M A) : cI S M' A := by
  obtain ⟨t, E, K, le, im, st, no, tp, fl⟩ := A
  obtain ⟨⟨a1, a2, a3, a4, a5⟩, b, c, d, e, f, g, i⟩ := hI
  have h' : ∀ a b, a < 306 → ¬ ((116 ≤ a ∧ a ≤ 124) ∨ (134 ≤ a ∧ a ≤ 168) ∨ a = 177 ∨ a = 179 ∨ a = 181 ∨ (a = 169 ∧ 8 ≤ b) ∨ (185 ≤ a ∧ a ≤ 305)) → M'.1 a b = M.1 a b := h
  refine ⟨⟨a1, h1, a3, h2.trans a4, h3.trans a5⟩, pTv_cg (fun a b k1 k2 => h' a b (by omega) (by omega)) b, pSv_cg (fun a b k1 k2 => h' a b (by omega) (by omega)) c, ⟨(h' 0 8 (by decide) (by decide)).trans d.1, fun q hq => pSv_cg (fun a b k1 k2 => h' a b (by omega) (by omega)) (d.2 q hq)⟩, ⟨(h' 182 1 (by decide) (by decide)).trans e.1, fun j hj => ⟨fun p hp => (h' 184 _ (by decide) (by omega)).trans ((e.2 j hj).1 p hp), (h' 184 _ (by decide) (by omega)).trans (e.2 j hj).2⟩⟩, ⟨(h' 169 6 (by decide) (by decide)).trans f.1, (h' 169 7 (by decide) (by decide)).trans f.2.1, fun j hj => ⟨(h' 171 j (by decide) (by omega)).trans (f.2.2 j hj).1, (h' 173 j (by decide) (by omega)).trans (f.2.2 j hj).2.1, (h' 175 j (by decide) (by omega)).trans (f.2.2 j hj).2.2⟩⟩, ⟨(h' 0 1 (by decide) (by decide)).trans g.1, fun j hj => (h' 2 j (by decide) (by omega)).trans (g.2 j hj)⟩, ⟨(h' 3 2 (by decide) (by decide)).trans i.1, (h' 3 3 (by decide) (by decide)).trans i.2.1, fun j hj => (h' 6 j (by decide) (by omega)).trans (i.2.2 j hj)⟩⟩
theorem mI_cg {S : List (Nat × Nat)} {M M' : zM} {A : zAb} (hw : aW A) (h : ∀ a b, 306 ≤ a → ¬ mQ a b → M'.1 a b = M.1 a b) (h1 : pMs S M'.2.2) (hI : mI S M A) : mI S M' A := by
  obtain ⟨t, E, K, le, im, st, no, tp, fl⟩ := A
  obtain ⟨a1, b, c, d, e, f, g, i, k⟩ := hI
  obtain ⟨w1, w2, w3, w4, w5, w6, w7⟩ := hw
  have hP := w1.2.1
  have hn := w4.1
  dsimp only at *
  have h' : ∀ a b, 306 ≤ a → ¬ ((a = 306 ∧ (b = 0 ∨ b = 32 ∨ b = 50 ∨ b = 55)) ∨ (324 ≤ a ∧ a ≤ 331 ∧ (b = 1 ∨ 23 ≤ b)) ∨ ((a = 332 ∨ a = 333) ∧ ((6 ≤ b ∧ b < 12) ∨ 138 ≤ b)) ∨ (a = 334 ∧ ((12 ≤ b ∧ b < 24) ∨ 276 ≤ b)) ∨ (a = 335 ∧ ((5 ≤ b ∧ b < 10) ∨ 115 ≤ b)) ∨ (336 ≤ a ∧ a ≤ 341) ∨ a = 346 ∨ a = 347) → M'.1 a b = M.1 a b := h
  refine ⟨h1, pME_cg (fun a b k1 k2 => h' a b (by omega) (by omega)) b, pMk_cg hP (fun a b k1 => h' a b (by unfold mS at k1; omega) (by unfold mS at k1; omega)) c, ⟨(h' 306 45 (by decide) (by decide)).trans d.1, fun q hq => pMk_cg hP (fun a b k1 => h' a b (by unfold mS at k1; omega) (by unfold mS at k1; omega)) (d.2 q hq)⟩, ⟨(h' 306 46 (by decide) (by decide)).trans e.1, fun j hj => (fun hj2 : j < st.1 => pMk_cg hP (fun a b k1 => h' a b (by unfold mS at k1; omega) (by unfold mS at k1; omega)) (e.2 j hj2)) hj⟩, ⟨(h' 306 58 (by decide) (by decide)).trans f.1, (h' 306 59 (by decide) (by decide)).trans f.2.1, fun j hj => ⟨(h' 345 j (by decide) (by omega)).trans (f.2.2 j hj).1, fun h2 => ⟨(h' 342 j (by decide) (by omega)).trans ((f.2.2 j hj).2 h2).1, (h' 343 j (by decide) (by omega)).trans ((f.2.2 j hj).2 h2).2.1, (h' 344 j (by decide) (by omega)).trans ((f.2.2 j hj).2 h2).2.2⟩⟩⟩, ⟨(h' 306 2 (by decide) (by decide)).trans g.1, fun j hj => (h' 307 j (by decide) (by omega)).trans (g.2 j hj)⟩, ⟨(h' 306 26 (by decide) (by decide)).trans i.1, (h' 306 27 (by decide) (by decide)).trans i.2⟩, ⟨(h' 306 47 (by decide) (by decide)).trans k.1, (h' 306 48 (by decide) (by decide)).trans k.2.1, (h' 306 49 (by decide) (by decide)).trans k.2.2⟩⟩
/-- one call: the class's part, the model's part -/
theorem zu {α : Type} {S : List (Nat × Nat)} {f g : zM → Option (α × zM)} (h : ∀ (A : zAb) (M : zM), aW A → cI S M A → ∃ (v : α) (A' : zAb) (M1 : zM), f M = some (v, M1) ∧ aW A' ∧ cI S M1 A' ∧ cX M M1 ∧ ∀ M' : zM, mI S M' A → ∃ M2 : zM, g M' = some (v, M2) ∧ mI S M2 A' ∧ mX M' M2) :
    ∀ M, zInv S M → ∃ (v : α) (M1 M2 : zM), f M = some (v, M1) ∧ g M1 = some (v, M2) ∧ zInv S M2 := by
  intro M hM
  obtain ⟨A, hw, hc, hm⟩ := hM
  obtain ⟨v, A', M1, e1, e2, e3, e4, e5⟩ := h A M hw hc
  have hm1 : mI S M1 A := mI_cg hw (fun a b k _ => e4 a b k) (pMs_of e3.1.1 e3.1.2.1) hm
  obtain ⟨M2, d1, d2, d3⟩ := e5 M1 hm1
  exact ⟨v, M1, M2, e1, d1, A', e2, cI_cg (fun a b k _ => d3.2 a b k) (d3.1 ▸ e3.1.2.1) (by rw [d3.1]) (by rw [d3.1]) e3, d2⟩
theorem cFr_X {M M' : zM} (h : cFr M M') : cX M M' := fun a b k => h.1 a b (by unfold cQ; omega)
theorem cFr_I {S : List (Nat × Nat)} {M M' : zM} {A : zAb} (h : cFr M M') (hI : cI S M A) : cI S M' A := cI_cg (fun a b _ k => h.1 a b k) h.2.1 h.2.2.1 h.2.2.2 hI
theorem mFr_X {M M' : zM} (h : fr mQ M M') : mX M M' := ⟨h.1, fun a b k => h.2 a b (by unfold mQ; omega)⟩
theorem mFr_I {S : List (Nat × Nat)} {M M' : zM} {A : zAb} (hw : aW A) (h : fr mQ M M') (hI : mI S M A) : mI S M' A := mI_cg hw (fun a b _ k => h.2 a b k) (h.1 ▸ hI.1) hI
/-- a call that only asks -/
theorem zq {α : Type} {S : List (Nat × Nat)} {f g : zM → Option (α × zM)} (h : ∀ (A : zAb) (M : zM), aW A → cI S M A → ∃ (v : α) (M1 : zM), f M = some (v, M1) ∧ cFr M M1 ∧ ∀ M' : zM, mI S M' A → ∃ M2 : zM, g M' = some (v, M2) ∧ fr mQ M' M2) :
    ∀ M, zInv S M → ∃ (v : α) (M1 M2 : zM), f M = some (v, M1) ∧ g M1 = some (v, M2) ∧ zInv S M2 :=
  zu (fun A M hw hc => by
    obtain ⟨v, M1, e1, e2, e3⟩ := h A M hw hc
    refine ⟨v, A, M1, e1, hw, cFr_I e2 hc, cFr_X e2, fun M' hm => ?_⟩
    obtain ⟨M2, d1, d2⟩ := e3 M' hm
    exact ⟨M2, d1, mFr_I hw d2 hm, mFr_X d2⟩)
/-- a call of the class that changes nothing at all -/
theorem zp {α : Type} {S : List (Nat × Nat)} {f : zM → Option α} {g : zM → Option (α × zM)} (h : ∀ (A : zAb) (M : zM), aW A → cI S M A → ∃ (v : α), f M = some v ∧ ∀ M' : zM, mI S M' A → ∃ M2 : zM, g M' = some (v, M2) ∧ fr mQ M' M2) :
    ∀ M, zInv S M → ∃ (v : α) (M2 : zM), f M = some v ∧ g M = some (v, M2) ∧ zInv S M2 := by
  intro M hM
  obtain ⟨A, hw, hc, hm⟩ := hM
  obtain ⟨v, e1, e2⟩ := h A M hw hc
  obtain ⟨M2, d1, d2⟩ := e2 M hm
  have d3 := mFr_X d2
  exact ⟨v, M2, e1, d1, A, hw, cI_cg (fun a b k _ => d3.2 a b k) (d3.1 ▸ hc.1.2.1) (by rw [d3.1]) (by rw [d3.1]) hc, mFr_I hw d2 hm⟩
theorem cFr.refl' {M : zM} (h : pRf M.2.2) : cFr M M := ⟨fun _ _ _ => rfl, h, rfl, rfl⟩
theorem mo_now {I : Nat → Nat → Int32} {E : zEn} (wE : wfE E) (h : mMd I) : pMo I E (moN E) := by
  obtain ⟨h1, h2, h3⟩ := h
  refine ⟨fun t ht => ?_, fun t ht => ?_, ?_, ?_⟩
  · have := wE.1
    rw [h1, h3, if_neg (by decide), if_neg (nI_m1ne (by omega))]
    rfl
  · rw [h1]
    exact ⟨fun h => absurd h.1 (by decide), fun h => by cases h⟩
  · rw [h1]
    exact ⟨fun h => absurd h (by decide), fun h => by cases h⟩
  · rw [h1, if_neg (by decide), if_neg (by decide)]
    rfl
