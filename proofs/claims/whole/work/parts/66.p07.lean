/-! pure part 7: a day of the class, whole -/
theorem pTv_cg {I I' : Nat → Nat → Int32} {t : Nat} {E : zEn} (h : ∀ a b, t ≤ a → a ≤ t + 31 → I' a b = I a b) (hV : pTv I t E) : pTv I' t E := by
  have e : ∀ a, t ≤ a → a ≤ t + 31 → I' a = I a := fun a h1 h2 => funext (fun b => h a b h1 h2)
  unfold pTv pRu at *
  rw [e t (by omega) (by omega), e (t + 21) (by omega) (by omega), e (t + 2) (by omega) (by omega), e (t + 4) (by omega) (by omega), e (t + 6) (by omega) (by omega), e (t + 8) (by omega) (by omega), e (t + 12) (by omega) (by omega), e (t + 10) (by omega) (by omega), e (t + 14) (by omega) (by omega), e (t + 16) (by omega) (by omega), e (t + 18) (by omega) (by omega), e (t + 20) (by omega) (by omega), e (t + 21 + 6) (by omega) (by omega), e (t + 21 + 8) (by omega) (by omega), e (t + 21 + 2) (by omega) (by omega), e (t + 21 + 4) (by omega) (by omega)]
  exact hV
theorem pSv_cg {I I' : Nat → Nat → Int32} {p : Nat} {E : zEn} {K : zKa} {le : Int32} (h : ∀ a b, p ≤ a → a ≤ p + 8 → I' a b = I a b) (hK : pSv I p E K le) : pSv I' p E K le := by
  have e : ∀ a, p ≤ a → a ≤ p + 8 → I' a = I a := fun a h1 h2 => funext (fun b => h a b h1 h2)
  unfold pSv at *
  rw [e p (by omega) (by omega), e (p + 2) (by omega) (by omega), e (p + 4) (by omega) (by omega), e (p + 6) (by omega) (by omega), e (p + 8) (by omega) (by omega)]
  exact hK
def knC (a f : Int32) : Int32 := if (0 : Int32) < (if a + f < (999 : Int32) then a + f else (999 : Int32)) then (if a + f < (999 : Int32) then a + f else (999 : Int32)) else (0 : Int32)
def opC (a : Int32) : Int32 := if a + (1 : Int32) < (9999 : Int32) then a + (1 : Int32) else (9999 : Int32)
def up1 (f : Nat → Int32) (t : Nat) (x : Int32) : Nat → Int32 := fun j => if j = t then x else f j
/-- the day's end, once it is known who opens -/
def endS (E : zEn) (mo : zMo) (K : zKa) (who : Option Nat) : zKa := match who with
  | none => ((kDy K + 1, kNx K, kNu K, kMi K, kDa K + 1, kLa K), none, none, kKn K, kOp K, kLs K, kWt K)
  | some t => ((kDy K + 1, kNx K, kNu K, kMi K, kDa K, lenS E K mo t), none, some t, up1 (kKn K) t (knC (kKn K t) (famS E K mo t)), up1 (kOp K) t (opC (kOp K t)), kLs K, wtS E K (lenS E K mo t))
theorem e_opens {S : List (Nat × Nat)} {M : zM} {p t : Nat} {len fame : Int32} (hS : pSs S M.2.2 p) (ht : t < 6) : gX7_opens S p (nI t) len fame M = some (zsI (zsI (zsI (zsI (zsI M p 9 (nI t)) p 4 len) p 8 (M.1 p 8 + len)) (p + 3 + 1) t (knC (M.1 (p + 3 + 1) t) fame)) (p + 5 + 1) t (opC (M.1 (p + 5 + 1) t))) := by
  obtain ⟨s0, -, s12, s13, -, -, sk, so, -⟩ := id hS
  unfold gX7_opens knC opC
  rw [zpI_ok s0, zpI_ok s0, zgI_ok s0, zpI_ok s0]
  rw [zsI_ne (M := zsI M p 9 (nI t)) (k := p) (j := 4) (a := p) (b := 8) (by omega), zsI_ne (M := M) (k := p) (j := 9) (a := p) (b := 8) (by omega)]
  rw [zgR_ok (M := zsI (zsI (zsI M p 9 (nI t)) p 4 len) p 8 (M.1 p 8 + len)) s0 s12, zgR_ok (M := zsI (zsI (zsI M p 9 (nI t)) p 4 len) p 8 (M.1 p 8 + len)) s0 s12, zrc_ok sk.1, e_getR sk ht (zsI (zsI (zsI M p 9 (nI t)) p 4 len) p 8 (M.1 p 8 + len)) rfl, Option.bind_some, zrc_ok sk.1]
  rw [e_set (M := zsI (zsI (zsI M p 9 (nI t)) p 4 len) p 8 (M.1 p 8 + len)) sk ht, Option.bind_some]
  rw [zsI_ne (M := zsI (zsI M p 9 (nI t)) p 4 len) (k := p) (j := 8) (a := p + 3 + 1) (b := t) (by omega), zsI_ne (M := zsI M p 9 (nI t)) (k := p) (j := 4) (a := p + 3 + 1) (b := t) (by omega), zsI_ne (M := M) (k := p) (j := 9) (a := p + 3 + 1) (b := t) (by omega)]
  generalize hM5 : zsI (zsI (zsI (zsI M p 9 (nI t)) p 4 len) p 8 (M.1 p 8 + len)) (p + 3 + 1) t _ = M5
  have hR5 : M5.2.2 = M.2.2 := by rw [← hM5]; rfl
  have h5 : M5.1 (p + 5 + 1) t = M.1 (p + 5 + 1) t := by rw [← hM5, zsI_ne (by omega), zsI_ne (by omega), zsI_ne (by omega), zsI_ne (by omega)]
  rw [zgR_ok s0 (hR5 ▸ s13), zgR_ok s0 (hR5 ▸ s13), zrc_ok so.1, e_getR so ht M5 hR5, Option.bind_some, zrc_ok so.1, e_set (hR5 ▸ so) ht, Option.bind_some, h5]
