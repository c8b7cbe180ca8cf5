/-! calls at the level of W, whatever is to hold at the end: for the law, and for the roads that throw -/
def zLA (w : zWd) (own : String) (cc : ByteArray) (nL : Nat) (p : Program) (s : State) (m : MethodId) (args : Array Value) (c : Code) : Prop :=
  p.tables.exec = Jvm.exec ∧ c.code = cc ∧ c.maxLocals = nL ∧ s.vm.findClass own = some m.cls ∧ (∀ x ∈ zG, x.before args s = true) ∧ va_K w.2.1 vwCl (zTys w.2.2.1) s ∧ (∀ x ∈ zN, va_Nw x s) ∧ w.2.2.2.2.1 s ∧ zOK w ∧ w.2.2.2.1 ≤ s.heap.size
def zLD (w : zWd) (s : State) (R : Room) (σ : zH) (H : Heap) (locs : List Loc) (cells slots : Nat) : Prop :=
  va_P w.2.1 vwCl (zW w.2.2.2.1 w.2.2.1 σ) H ∧ va_S (fun q => w.2.2.2.1 ≤ q) s.heap H locs ∧ H.size = w.2.2.2.1 + σ.1.length + w.2.2.2.2.2 ∧ cells ≤ R.cells ∧ slots ≤ R.slots
section ZCW
variable {w : zWd} {own : String} {cc : ByteArray} {nL : Nat} {p : Program} {e : Env} {R : Room} {s : State} {m : MethodId} {args : Array Value} {below : List Frame} {meth : Method} {c : Code} {H : Heap} {locs : List Loc} {cells slots : Nat} {Q : State → Prop} {pc : Nat} {lsr : Array Slot} {rest : List Value}
theorem zlpre {σ : zH} (hA : zLA w own cc nL p s m args c) (hD : zLD w s R σ H locs cells slots) (as : List Value) : ∀ U : State, U.heap = H → s.WarmedH U.vm → zP w as σ (as.map (zv w.2.2.2.1)).toArray U := by
  intro U hU hW
  obtain ⟨hx, hb, hml, hown, hG, hK, hN, hZ, hok, hBs⟩ := hA
  obtain ⟨hP, hS, hsz, -⟩ := hD
  refine ⟨rfl, by rw [hU]; exact hsz, by rw [hU]; exact hP, va_K.moved hW.alike hK, zN_warm hW hN, hok s U hW (fun q hq => ?_) hZ⟩
  rw [hU]
  exact hS.2.1 q (Nat.lt_of_lt_of_le hq hBs) (Nat.not_le.mpr hq)
theorem zgo {σ : zH} {f : Option Value × zH} {mc ms : Nat} {st0 : List Value} {a : Array Value} (hD : zLD w s R σ H locs cells slots) (hc : cells + mc ≤ R.cells) (hs : slots + ms ≤ R.slots)
    (hrun : va_Run p w.1 e R s m args below meth c H locs cells slots mc ms (F0 m pc lsr st0) rest (zQ w f a) (fun q => w.2.2.2.1 ≤ q))
    (kk : ∀ H' locs', zLD w s R f.2 H' locs' (cells + mc) (slots + ms) → W p w.1 e R s m args below meth c H' locs' (cells + mc) (slots + ms) Q (F0 m (pc + 3) lsr ((f.1.map (zv w.2.2.2.1)).toList ++ rest))) : W p w.1 e R s m args below meth c H locs cells slots Q (F0 m pc lsr st0) := by
  intro T hT X
  obtain ⟨v, st₀, t, T', L, h0, X', hL, e1, e2, ⟨hv, hP', hK', hsz', hF⟩, go⟩ := hrun T hT X
  obtain ⟨hP, hS, hsz, -⟩ := hD
  cases hv
  have hD' : zLD w s R f.2 T'.heap (locs ++ L) (cells + mc) (slots + ms) := by
    refine ⟨by rw [e1]; exact hP', ⟨?_, ?_, ?_⟩, by rw [e1]; exact hsz', hc, hs⟩
    · rw [e1]; exact Nat.le_trans hS.1 (by rw [← h0]; exact hF.1)
    · intro q hq hn
      rw [e1, hF.2 q (by rw [h0]; exact Nat.lt_of_lt_of_le hq hS.1) hn, h0]
      exact hS.2.1 q hq hn
    · intro q hq
      rcases List.mem_append.mp hq with h | h
      · exact hS.2.2 q h
      · exact hL q h
  obtain ⟨t2, a1, b1⟩ := kk T'.heap (locs ++ L) hD' T' rfl X'
  exact ⟨t2, go t2 a1, b1⟩
theorem zlV {ρ' : Type} {fin' : ρ' → Option Value × zH} {r' : ρ'} {o' : Option ρ'} {d' : Nat} {mi' : zMI} {k ci n idx nA : Nat} {as : List Value} {S : List (Nat × Nat)} {M : zM} (hA : zLA w own cc nL p s m args c) (hD : zLD w s R (S, M) H locs cells slots) (hc : CT fin' w d' mi' (.ref k :: as) (S, M) o') (ho : o' = some r') (hgr : (fin' r').2.1 = S) (hv : zMV mi' nA ci n) (hnA : as.length = nA) (hk : S[k]? = some (ci, n)) (hlink : Cond.methodLink own idx mi'.1 ∈ zG) (hR : d' + 1 ≤ R.frames ∧ 60 * d' + 60 ≤ R.locals) (hsz : lsr.size = nL) (hst : (rest.map fun v => v.category).sum ≤ 8) (hdg : decode cc pc = .ok (.invokevirtual idx, 3))
    (kk : ∀ H' locs', zLD w s R (S, (fin' r').2.2) H' locs' cells slots → W p w.1 e R s m args below meth c H' locs' cells slots Q (F0 m (pc + 3) lsr (((fin' r').1.map (zv w.2.2.2.1)).toList ++ rest))) :
    W p w.1 e R s m args below meth c H locs cells slots Q (F0 m pc lsr ((as.map (zv w.2.2.2.1)).reverse ++ .ref (w.2.2.2.1 + k) :: rest)) := by
  obtain ⟨⟨⟨hm1, hm2⟩, hm3, hm4⟩, hi, hs, TX, hcl⟩ := hv
  obtain ⟨hx, hb, hml, hown, hG, hK, hN, hZ, hok, hBs⟩ := id hA
  obtain ⟨hP, hS, hH, hce, hsl⟩ := id hD
  have hM := hc r' ho 0 0 (by rw [hgr, Nat.zero_add]) (by rw [hgr, Nat.zero_add]) hok
  have he := zW_get (B := w.2.2.2.1) (T := w.2.2.1) (σ := (S, M)) hk
  rw [zE_obj hcl.2.2.2.2.1] at he
  have hrecv := va_recv hK hP hcl.1 he
  have hfs : (fin' r').2 = (S, (fin' r').2.2) := Prod.ext hgr rfl
  have hrun : va_Run p w.1 e R s m args below meth c H locs cells slots 0 0 (F0 m pc lsr ((as.map (zv w.2.2.2.1)).reverse ++ .ref (w.2.2.2.1 + k) :: rest)) rest (zQ w (fin' r') (Value.ref (w.2.2.2.1 + k) :: as.map (zv w.2.2.2.1)).toArray) (fun q => w.2.2.2.1 ≤ q) := va_runV (As := as.map (zv w.2.2.2.1)) (rest := rest) (C := mi'.1.cls) (b := w.2.2.2.1 + k) (Ts := zG) (own := own) (index := idx) (n := nA) ⟨hx, hb, hml, hown, hG⟩ hM ⟨callB_of nA hG (zgood (ws := zG) hm1) rfl rfl rfl (hG _ hm2) (hG _ hlink) hm3 ⟨by show d' + 1 ≤ R.frames; omega, by show 8 + (mi'.2.2.1 + 11) + 60 * d' ≤ R.locals; omega⟩, hG _ hi, hG _ hs⟩ ⟨zblind hok, hrecv, zlpre hA hD (.ref k :: as)⟩ rfl (by rw [List.length_map]; exact hnA) hsz rfl (by show 2 * 0 + _ ≤ 8; omega) hdg ⟨by omega, by omega⟩
  refine zgo hD (by omega) (by omega) hrun (fun H' locs' hD' => ?_)
  rw [hfs] at hD'
  exact kk H' locs' hD'
end ZCW
