/-! the law's start: two objects and a row are made; what the launch gives is gathered -/
theorem zfull (c k : Nat) (M : zM) (hc : 1 ≤ c) : ∃ σf : zH, σf.1.length = c ∧ zsl σf.1 = k := by
  refine ⟨((100, k) :: List.replicate (c - 1) (100, 0), M), ?_, ?_⟩
  · simp; omega
  · simp [zsl]
section ZST
variable {w : zWd} {own : String} {cc : ByteArray} {nL : Nat} {p : Program} {e : Env} {R : Room} {s : State} {m : MethodId} {args : Array Value} {below : List Frame} {meth : Method} {c : Code} {H : Heap} {locs : List Loc} {Q : State → Prop} {pc : Nat} {lsr : Array Slot} {rest : List Value} {S : List (Nat × Nat)} {M : zM}
theorem zl_zD (hg : w.2.2.2.2.2 = 0) (hB : w.2.2.2.1 = s.heap.size) (hR : 1 ≤ R.cells) (hD : zLD w s R (S, M) H locs S.length (zsl S)) : ∃ σf : zH, σf.1.length = R.cells ∧ zsl σf.1 = R.slots ∧ zD w s R σf (S, M) H locs S.length (zsl S) 0 0 := by
  obtain ⟨σf, h1, h2⟩ := zfull R.cells R.slots M hR
  obtain ⟨hP, hS, hsz, hc, hs⟩ := hD
  exact ⟨σf, h1, h2, hP, hS, by rw [hg, hB]; rfl, rfl, rfl, hc, hs, by rw [h1]; rfl, by rw [h2]; rfl, Or.inl hg⟩
theorem zl_new {ci n idx : Nat} {C : String} {TX : u_T} (hg : w.2.2.2.2.2 = 0) (hB : w.2.2.2.1 = s.heap.size) (hA : zLA w own cc nL p s m args c) (hD : zLD w s R (S, M) H locs S.length (zsl S)) (hcl : zCl ci C TX n) (hcls : Cond.classLink own idx C ∈ zG) (hinst : Cond.instantiable C n ∈ zG) (hini : Cond.initialized C ∈ zG) (hR : S.length + 1 ≤ R.cells ∧ zsl S + n ≤ R.slots) (hdg : decode cc pc = .ok (.new idx, 3))
    (kk : ∀ H', zLD w s R (S ++ [(ci, n)], zNw M S.length) H' locs (S.length + 1) (zsl S + n) → W p w.1 e R s m args below meth c H' locs (S.length + 1) (zsl S + n) Q (F0 m (pc + 3) lsr (.ref (w.2.2.2.1 + S.length) :: rest))) : W p w.1 e R s m args below meth c H locs S.length (zsl S) Q (F0 m pc lsr rest) := by
  obtain ⟨hx, hb, hml, hown, hG, hK, hN, hZ, hok, hBs⟩ := id hA
  obtain ⟨σf, f1, f2, hDz⟩ := zl_zD hg hB (by omega) hD
  obtain ⟨hP, hS, -⟩ := id hD
  have hE : (.inr (ci, (List.range n).map (fun j => zfv w.2.2.2.1 (zNw M S.length) S.length (zTyp ci j) j)) : va_E) = zE w.2.2.2.1 w.2.2.1 (zNw M S.length) S.length (ci, n) := (zE_obj hcl.2.2.2.2.1).symm
  have e1 : (S ++ [(ci, n)]).length = S.length + 1 := by simp
  have e2 := zsl_app S ci n
  refine va_new hx hb hG hcl.2.1 (zTyp ci) hcl.2.2.1 hown (hG _ hcls) (hG _ hinst) (hG _ hini) hK hP zW_D hS (fun q h => Nat.le_trans hBs h) hcl.1 (fs := (List.range n).map (fun j => zfv w.2.2.2.1 (zNw M S.length) S.length (zTyp ci j) j)) ?_ hR.1 hR.2 hdg (fun q H1 hP1 hD1 hS1 => ?_)
  · intro j hj
    rw [hcl.2.2.2.2.2 j hj]
    simp [vp_V, hj, zfv, zNw, va_rf]
  · intro T hT X
    obtain ⟨hq, hD2⟩ := znewD (sh := (ci, n)) hg hDz hP1 hD1 hS1 hE (by omega) (by omega) hT X
    subst hq
    have hsz2 := zsize hD2 hT X
    exact kk H1 ⟨hD2.1, hD2.2.1, hsz2, hR.1, hR.2⟩ T hT X
theorem zl_newL {x : Int32} (hg : w.2.2.2.2.2 = 0) (hB : w.2.2.2.1 = s.heap.size) (hA : zLA w own cc nL p s m args c) (hD : zLD w s R (S, M) H locs S.length (zsl S)) (hx0 : ¬ x < 0) (hx1 : x.toNatClampNeg ≤ 100000) (hR : S.length + 1 ≤ R.cells ∧ zsl S + x.toNatClampNeg ≤ R.slots) (hdg : decode cc pc = .ok (.newarray .long, 2))
    (kk : ∀ H', zLD w s R (S ++ [(101, x.toNatClampNeg)], zNw M S.length) H' locs (S.length + 1) (zsl S + x.toNatClampNeg) → W p w.1 e R s m args below meth c H' locs (S.length + 1) (zsl S + x.toNatClampNeg) Q (F0 m (pc + 2) lsr (.ref (w.2.2.2.1 + S.length) :: rest))) : W p w.1 e R s m args below meth c H locs S.length (zsl S) Q (F0 m pc lsr (.int x :: rest)) := by
  obtain ⟨hx, hb, hml, hown, hG, hK, hN, hZ, hok, hBs⟩ := id hA
  obtain ⟨σf, f1, f2, hDz⟩ := zl_zD hg hB (by omega) hD
  obtain ⟨hP, hS, -⟩ := id hD
  have e1 : (S ++ [(101, x.toNatClampNeg)]).length = S.length + 1 := by simp
  have e2 := zsl_app S 101 x.toNatClampNeg
  have hby : componentBytes FieldType.long ≤ 8 := by decide
  have hbytes : x.toNatClampNeg * componentBytes FieldType.long ≤ 536870912 := Nat.le_trans (Nat.mul_le_mul hx1 hby) (by decide)
  have hE : ∀ T : Nat → ClassId, (.inl (T 1, x.toNatClampNeg, .inr (.inl (fun _ => 0))) : va_E) = zE w.2.2.2.1 T (zNw M S.length) S.length (101, x.toNatClampNeg) := fun T => by rw [zE_101]; simp [zNw]
  refine va_newa (atype := .long) hx hb (hG _ zg_179) rfl hK hP zW_D hS (fun q h => Nat.le_trans hBs h) (a0 := (x.toNatClampNeg, .inr (.inl (fun _ => 0)))) (fun cA => rfl) hx0 rfl hbytes hR.1 hR.2 hdg (fun q cA H1 hK1 hP1 hD1 hS1 => ?_)
  intro T hT X
  have hc := zprim (t0 := 1) (fun C h => by cases h) rfl hK1
  subst hc
  obtain ⟨hq, hD2⟩ := znewD (sh := (101, x.toNatClampNeg)) hg hDz hP1 hD1 hS1 (hE _) (by omega) (by omega) hT X
  subst hq
  have hsz2 := zsize hD2 hT X
  exact kk H1 ⟨hD2.1, hD2.2.1, hsz2, hR.1, hR.2⟩ T hT X
theorem zl_ctor {r' : zH} {o' : Option zH} {d' : Nat} {mi' : zMI} {k idx nA : Nat} {as : List Value} (hA : zLA w own cc nL p s m args c) (hD : zLD w s R (S, M) H locs S.length (zsl S)) (hc : CT zfC w d' mi' (.ref k :: as) (S, M) o') (ho : o' = some r') (h1 : S.length ≤ r'.1.length) (h2 : zsl S ≤ zsl r'.1) (hRR : r'.1.length ≤ R.cells ∧ zsl r'.1 ≤ R.slots) (hv : zMC mi' nA) (hnA : as.length = nA) (hlink : Cond.methodLink own idx mi'.1 ∈ zG) (hR : d' + 1 ≤ R.frames ∧ 60 * d' + 60 ≤ R.locals) (hsz : lsr.size = nL) (hst : (rest.map fun v => v.category).sum ≤ 8) (hdg : decode cc pc = .ok (.invokespecial idx, 3))
    (kk : ∀ H' locs', zLD w s R r' H' locs' r'.1.length (zsl r'.1) → W p w.1 e R s m args below meth c H' locs' r'.1.length (zsl r'.1) Q (F0 m (pc + 3) lsr rest)) :
    W p w.1 e R s m args below meth c H locs S.length (zsl S) Q (F0 m pc lsr ((as.map (zv w.2.2.2.1)).reverse ++ .ref (w.2.2.2.1 + k) :: rest)) := by
  obtain ⟨⟨⟨hm1, hm2⟩, hm3, hm4⟩, hret, hin, hinst⟩ := hv
  obtain ⟨hx, hb, hml, hown, hG, hK, hN, hZ, hok, hBs⟩ := id hA
  have e1 : (r'.1.length - S.length) + S.length = r'.1.length := by omega
  have e2 : (zsl r'.1 - zsl S) + zsl S = zsl r'.1 := by omega
  have hM := hc r' ho (r'.1.length - S.length) (zsl r'.1 - zsl S) e1 e2 hok
  rw [hret] at hM hm1
  have hfin : S.length + (r'.1.length - S.length) ≤ R.cells ∧ zsl S + (zsl r'.1 - zsl S) ≤ R.slots := ⟨by omega, by omega⟩
  have hrun : va_Run p w.1 e R s m args below meth c H locs S.length (zsl S) (r'.1.length - S.length) (zsl r'.1 - zsl S) (F0 m pc lsr ((as.map (zv w.2.2.2.1)).reverse ++ .ref (w.2.2.2.1 + k) :: rest)) rest (zQ w (zfC r') (Value.ref (w.2.2.2.1 + k) :: as.map (zv w.2.2.2.1)).toArray) (fun q => w.2.2.2.1 ≤ q) := va_runI (As := as.map (zv w.2.2.2.1)) (rest := rest) (b := w.2.2.2.1 + k) (Ts := zG) (own := own) (index := idx) (n := nA) ⟨hx, hb, hml, hown, hG⟩ hM ⟨callB_of nA hG (zgood (ws := zG) hm1) rfl rfl rfl (hG _ hm2) (hG _ hlink) hm3 ⟨by show d' + 1 ≤ R.frames; omega, by show 8 + (mi'.2.2.1 + 11) + 60 * d' ≤ R.locals; omega⟩, hin, hG _ hinst⟩ ⟨zblind hok, zlpre hA hD (.ref k :: as)⟩ rfl (by rw [List.length_map]; exact hnA) hsz rfl (by show 2 * 0 + _ ≤ 8; omega) hdg hfin
  refine zgo (f := zfC r') hD hfin.1 hfin.2 hrun (fun H' locs' hD' => ?_)
  rw [show S.length + (r'.1.length - S.length) = r'.1.length by omega, show zsl S + (zsl r'.1 - zsl S) = zsl r'.1 by omega] at hD' ⊢
  exact kk H' locs' hD'
end ZST
