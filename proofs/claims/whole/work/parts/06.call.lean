/-! rows of AJ: calls by contract CT -/
def zMF (mi : zMI) (n : Nat) : Prop := (Cond.code mi.1 mi.2.1 mi.2.2.1 mi.2.2.2 ∈ zG ∧ Cond.initialized mi.1.cls ∈ zG) ∧ (mi.1.cls ≠ "java/lang/invoke/MethodHandle" ∧ mi.1.cls ≠ "java/lang/invoke/VarHandle" ∧ (parseMethodDescriptor mi.1.desc).map (fun d => d.parameters.length) = some n) ∧ mi.2.2.1 ≤ 40
theorem zgood {ws : List Cond} {c : Cond} (h : c ∈ zG) : GoodIn zG (c :: zG) := by
  intro x hx
  have hm : x ∈ zG := by
    rcases List.mem_cons.mp hx with rfl | h2
    · exact h
    · exact h2
  exact ⟨hm, good_of_word (List.mem_filter.mp hm).2⟩
theorem zN_warm {s U : State} (hW : s.WarmedH U.vm) (h : ∀ x ∈ zN, va_Nw x s) : ∀ x ∈ zN, va_Nw x U := by
  intro x hx
  have h1 := h x hx
  have h2 := (List.mem_filter.mp hx).2
  cases x <;> first | exact va_Nw.warmF hW h1 | exact va_Nw.warmM hW h1 | (simp [zNest] at h2)
theorem zN_same {s U : State} (hv : s.vm = U.vm) (h : ∀ x ∈ zN, va_Nw x s) : ∀ x ∈ zN, va_Nw x U := by
  intro x hx
  have h1 := h x hx
  have h2 := (List.mem_filter.mp hx).2
  cases x <;> first | exact va_Nw.same rfl hv h1 | (simp [zNest] at h2)
theorem zblind {w : zWd} {as : List Value} {σ : zH} (hok : zOK w) : FrameBlind (zP w as σ) := by
  intro a U g mk q
  obtain ⟨q0, q1, qP, qK, qN, qZ⟩ := q
  exact ⟨q0, q1, qP, va_K.moved (u := U) (U := U.calling g mk a) (Vm.Alike.refl U.vm) qK, zN_same (s := U) (U := U.calling g mk a) rfl qN, hok U (U.calling g mk a) (State.WarmedH.refl U) (fun _ _ => rfl) qZ⟩
theorem zpre {w : zWd} {d : Nat} {mi : zMI} {p : Program} {R : Room} {s : State} {m : MethodId} {args : Array Value} {meth : Method} {c : Code} {σf σ : zH} {H : Heap} {locs : List Loc} {cells slots c0 s0 : Nat} (hA : zA w d mi p R s m args meth c) (hD : zD w s R σf σ H locs cells slots c0 s0) (hsz : H.size = w.2.2.2.1 + σ.1.length + w.2.2.2.2.2) (as : List Value) :
    ∀ U : State, U.heap = H → s.WarmedH U.vm → zP w as σ (as.map (zv w.2.2.2.1)).toArray U := by
  intro U hU hW
  obtain ⟨hx, hb, -, -, hown, -, hG, -, hK, hN, hZ, hok, -, -, hBs⟩ := hA
  obtain ⟨hP, hS, -⟩ := hD
  refine ⟨rfl, by rw [hU]; exact hsz, by rw [hU]; exact hP, va_K.moved hW.alike hK, zN_warm hW hN, hok s U hW (fun q hq => ?_) hZ⟩
  rw [hU]
  exact hS.2.1 q (Nat.lt_of_lt_of_le hq hBs) (Nat.not_le.mpr hq)
section ZC
variable {ρ ρ' : Type} {fin : ρ → Option Value × zH} {fin' : ρ' → Option Value × zH} {w : zWd} {d d' : Nat} {mi mi' : zMI} {pc : Nat} {ls : List (Nat × Value)} {st : List Value} {σ : zH} {o : Option ρ} {o' : Option ρ'} {as : List Value}
/-- behind a call -/
theorem zafter {r : ρ} {r' : ρ'} {p : Program} {e : Env} {R : Room} {s : State} {m : MethodId} {args : Array Value} {below : List Frame} {meth : Method} {c : Code} {H : Heap} {locs : List Loc} {cells slots c0 s0 mc ms : Nat} {lsr : Array Slot} {st0 : List Value} {a : Array Value} {T : State}
    (hA : zA w d mi p R s m args meth c) (hD : zD w s R (fin r).2 σ H locs cells slots c0 s0) (hl : lv_has lsr mi.2.2.1 (zls w.2.2.2.1 ls))
    (hr : fin r = fin r) (hgc : w.2.2.2.2.2 = 0 ∨ cells + mc = 0)
    (hmc : mc + σ.1.length = (fin' r').2.1.length) (hms : ms + zsl σ.1 = zsl (fin' r').2.1) (hc : cells + mc ≤ R.cells) (hs : slots + ms ≤ R.slots)
    (kk : ∀ H' locs' lsr', zD w s R (fin r).2 (fin' r').2 H' locs' (cells + mc) (slots + ms) c0 s0 → lv_has lsr' mi.2.2.1 (zls w.2.2.2.1 ls) → W p w.1 e R s m args below meth c H' locs' (cells + mc) (slots + ms) (MQ below (zQ w (fin r)) args s R.cells R.slots (fun q => w.2.2.2.1 ≤ q)) (F0 m (pc + 3) lsr' (((fin' r').1.toList ++ st).map (zv w.2.2.2.1))))
    (hrun : va_Run p w.1 e R s m args below meth c H locs cells slots mc ms (F0 m pc lsr st0) (st.map (zv w.2.2.2.1)) (zQ w (fin' r') a) (fun q => w.2.2.2.1 ≤ q)) (hT : T.heap = H) (X : Stand p w.1 e R s m args below meth c T locs cells slots) :
    ∃ t, Steps p.tables e below (T.setTop (F0 m pc lsr st0)) t ∧ MQ below (zQ w (fin r)) args s R.cells R.slots (fun q => w.2.2.2.1 ≤ q) t := by
  obtain ⟨v, st₀, t, T', L, h0, X', hL, e1, e2, ⟨hv, hP', hK', hsz', hF⟩, go⟩ := hrun T hT X
  obtain ⟨hP, hS, h1, h2, h3, h4, h5, h6, h7, hgg⟩ := id hD
  have hv2 : v = (fin' r').1.map (zv w.2.2.2.1) := by cases hv; rfl
  subst hv2
  have hstk : ((fin' r').1.map (zv w.2.2.2.1)).toList ++ st.map (zv w.2.2.2.1) = ((fin' r').1.toList ++ st).map (zv w.2.2.2.1) := by
    cases (fin' r').1 <;> rfl
  have hD' : zD w s R (fin r).2 (fin' r').2 T'.heap (locs ++ L) (cells + mc) (slots + ms) c0 s0 := by
    refine ⟨by rw [e1]; exact hP', ⟨?_, ?_, ?_⟩, h1, by omega, by omega, hc, hs, h6, h7, hgc⟩
    · rw [e1]; exact Nat.le_trans hS.1 (by rw [← h0]; exact hF.1)
    · intro q hq hn
      rw [e1, hF.2 q (by rw [h0]; exact Nat.lt_of_lt_of_le hq hS.1) hn, h0]
      exact hS.2.1 q hq hn
    · intro q hq
      rcases List.mem_append.mp hq with h | h
      · exact hS.2.2 q h
      · exact hL q h
  obtain ⟨t2, a1, b1⟩ := kk T'.heap (locs ++ L) lsr hD' hl T' rfl X'
  refine ⟨t2, go t2 ?_, b1⟩
  rw [← hstk] at a1
  exact a1
theorem aj_callV {k ci n idx nA : Nat} {C : String} {TX : u_T} {f : ρ' → Option ρ} {S : List (Nat × Nat)} {M : zM} (hc : CT fin' w d' mi' (.ref k :: as) (S, M) o') (hgr : ∀ r', (fin' r').2.1 = S) (hcl : zCl ci C TX n) (hC : C = mi'.1.cls) (hmf : zMF mi' nA) (hnA : as.length = nA) (hinst : Cond.instanceMethod mi'.1 ∈ zG) (hsel : Cond.selects mi'.1.cls mi'.1 mi'.1 ∈ zG) (hlink : zMl mi.1.cls idx mi'.1) (hd : d' + 1 ≤ d) (hst : (st.map fun v => v.category).sum ≤ 8) (hdg : decode mi.2.1 pc = .ok (.invokevirtual idx, 3))
    (kk : ∀ r', AJ fin w d mi (pc + 3) ls ((fin' r').1.toList ++ st) (S, (fin' r').2.2) (f r')) : AJ fin w d mi pc ls (as.reverse ++ .ref k :: st) (S, M) (zrc S k ci n (o'.bind f)) := by
  refine aj_ckp fun hk => ?_
  intro r hr p e R s m args below meth c H locs cells slots c0 s0 lsr hA hD hl
  cases ho : o' with
  | none => rw [ho] at hr; cases hr
  | some r' =>
    rw [ho] at hr
    have hr : f r' = some r := hr
    have hS' := hgr r'
    have hfs : (fin' r').2 = (S, (fin' r').2.2) := Prod.ext hS' rfl
    intro T hT X
    have hsz := zsize hD hT X
    obtain ⟨hx, hb, -, hml, hown, -, hG, -, hK, hN, hZ, hok, hfr, hlo, hBs⟩ := id hA
    obtain ⟨hP, hS, h1, h2, h3, h4, h5, h6, h7, hgg⟩ := id hD
    have hM := hc r' ho 0 0 (by rw [hS', Nat.zero_add]) (by rw [hS', Nat.zero_add]) hok
    obtain ⟨⟨hm1, hm2⟩, hm3, hm4⟩ := hmf
    have hpre := zpre hA hD hsz (.ref k :: as)
    have he := zW_get (B := w.2.2.2.1) (T := w.2.2.1) (σ := (S, M)) hk
    rw [zE_obj hcl.2.2.2.2.1] at he
    subst hC
    have hrecv := va_recv hK hP hcl.1 he
    have hrun : va_Run p w.1 e R s m args below meth c H locs cells slots 0 0 (F0 m pc lsr ((as.reverse ++ .ref k :: st).map (zv w.2.2.2.1))) (st.map (zv w.2.2.2.1)) (zQ w (fin' r') (Value.ref (w.2.2.2.1 + k) :: as.map (zv w.2.2.2.1)).toArray) (fun q => w.2.2.2.1 ≤ q) := by
      rcases hlink with hlink | ⟨host, hlink⟩
      · exact va_runV (As := as.map (zv w.2.2.2.1)) (rest := st.map (zv w.2.2.2.1)) (g := F0 m pc lsr ((as.reverse ++ .ref k :: st).map (zv w.2.2.2.1))) (C := mi'.1.cls) (b := w.2.2.2.1 + k) (cells := cells) (slots := slots) (locs := locs) (H := H) (Ts := zG) (own := mi.1.cls) (index := idx) (n := nA) ⟨hx, hb, hml, hown, hG⟩ hM ⟨callB_of nA hG (zgood (ws := zG) hm1) rfl rfl rfl (hG _ hm2) (hG _ hlink) hm3 ⟨by show d' + 1 ≤ R.frames; omega, by show 8 + (mi'.2.2.1 + 11) + 60 * d' ≤ R.locals; omega⟩, hG _ hinst, hG _ hsel⟩ ⟨zblind hok, hrecv, hpre⟩ rfl (by rw [List.length_map]; exact hnA) hl.1 (by rw [List.map_append, List.map_reverse]; rfl) (by show 2 * 0 + _ ≤ 8; rw [zrest]; omega) hdg ⟨by omega, by omega⟩
      · exact va_runVN (As := as.map (zv w.2.2.2.1)) (rest := st.map (zv w.2.2.2.1)) (g := F0 m pc lsr ((as.reverse ++ .ref k :: st).map (zv w.2.2.2.1))) (C := mi'.1.cls) (b := w.2.2.2.1 + k) (cells := cells) (slots := slots) (locs := locs) (H := H) (Ts := zG) (own := mi.1.cls) (index := idx) (n := nA) (host := host) ⟨hx, hb, hml, hown, hG⟩ hM ⟨va_cnB nA hG (zgood (ws := zG) hm1) rfl rfl rfl (hN _ hlink) (hG _ hm2) hm3 ⟨by show d' + 1 ≤ R.frames; omega, by show 8 + (mi'.2.2.1 + 11) + 60 * d' ≤ R.locals; omega⟩, hG _ hinst, hG _ hsel⟩ ⟨zblind hok, hrecv, hpre⟩ rfl (by rw [List.length_map]; exact hnA) hl.1 (by rw [List.map_append, List.map_reverse]; rfl) (by show 2 * 0 + _ ≤ 8; rw [zrest]; omega) hdg ⟨by omega, by omega⟩
    refine zafter (r := r) (r' := r') (fin := fin) hA hD hl rfl (hgg.imp id (fun h => by omega)) (by rw [hS', Nat.zero_add]) (by rw [hS', Nat.zero_add]) (by omega) (by omega) (fun H' locs' lsr' hD' hl' => ?_) hrun hT X
    rw [hfs] at hD'
    exact kk r' r hr p e R s m args below meth c H' locs' _ _ c0 s0 lsr' hA hD' hl'
theorem aj_callS {idx nA : Nat} {f : ρ' → Option ρ} {S : List (Nat × Nat)} {M : zM} (hc : CT fin' w d' mi' as (S, M) o') (hgr : ∀ r', (fin' r').2.1 = S) (hmf : zMF mi' nA) (hnA : as.length = nA) (hstat : Cond.static mi'.1 ∈ zG) (hlink : zMl mi.1.cls idx mi'.1) (hd : d' + 1 ≤ d) (hst : (st.map fun v => v.category).sum ≤ 8) (hdg : decode mi.2.1 pc = .ok (.invokestatic idx, 3))
    (kk : ∀ r', AJ fin w d mi (pc + 3) ls ((fin' r').1.toList ++ st) (S, (fin' r').2.2) (f r')) : AJ fin w d mi pc ls (as.reverse ++ st) (S, M) (o'.bind f) := by
  intro r hr p e R s m args below meth c H locs cells slots c0 s0 lsr hA hD hl
  cases ho : o' with
  | none => rw [ho] at hr; cases hr
  | some r' =>
    rw [ho] at hr
    have hr : f r' = some r := hr
    have hS' := hgr r'
    have hfs : (fin' r').2 = (S, (fin' r').2.2) := Prod.ext hS' rfl
    intro T hT X
    have hsz := zsize hD hT X
    obtain ⟨hx, hb, -, hml, hown, -, hG, -, hK, hN, hZ, hok, hfr, hlo, hBs⟩ := id hA
    obtain ⟨hP, hS, h1, h2, h3, h4, h5, h6, h7, hgg⟩ := id hD
    have hM := hc r' ho 0 0 (by rw [hS', Nat.zero_add]) (by rw [hS', Nat.zero_add]) hok
    obtain ⟨⟨hm1, hm2⟩, hm3, hm4⟩ := hmf
    have hpre := zpre hA hD hsz as
    have hrun : va_Run p w.1 e R s m args below meth c H locs cells slots 0 0 (F0 m pc lsr ((as.reverse ++ st).map (zv w.2.2.2.1))) (st.map (zv w.2.2.2.1)) (zQ w (fin' r') (as.map (zv w.2.2.2.1)).toArray) (fun q => w.2.2.2.1 ≤ q) := by
      rcases hlink with hlink | ⟨host, hlink⟩
      · exact va_runS (As := as.map (zv w.2.2.2.1)) (rest := st.map (zv w.2.2.2.1)) (g := F0 m pc lsr ((as.reverse ++ st).map (zv w.2.2.2.1))) (cells := cells) (slots := slots) (locs := locs) (H := H) (Ts := zG) (own := mi.1.cls) (index := idx) (n := nA) ⟨hx, hb, hml, hown, hG⟩ hM ⟨callB_of nA hG (zgood (ws := zG) hm1) rfl rfl rfl (hG _ hm2) (hG _ hlink) hm3 ⟨by show d' + 1 ≤ R.frames; omega, by show 8 + (mi'.2.2.1 + 11) + 60 * d' ≤ R.locals; omega⟩, hG _ hstat⟩ ⟨zblind hok, hpre⟩ rfl (by rw [List.length_map]; exact hnA) hl.1 (by rw [List.map_append, List.map_reverse]) (by show 2 * 0 + _ ≤ 8; rw [zrest]; omega) hdg ⟨by omega, by omega⟩
      · exact va_runSN (host := host) (As := as.map (zv w.2.2.2.1)) (rest := st.map (zv w.2.2.2.1)) (g := F0 m pc lsr ((as.reverse ++ st).map (zv w.2.2.2.1))) (cells := cells) (slots := slots) (locs := locs) (H := H) (Ts := zG) (own := mi.1.cls) (index := idx) (n := nA) ⟨hx, hb, hml, hown, hG⟩ hM ⟨va_cnB nA hG (zgood (ws := zG) hm1) rfl rfl rfl (hN _ hlink) (hG _ hm2) hm3 ⟨by show d' + 1 ≤ R.frames; omega, by show 8 + (mi'.2.2.1 + 11) + 60 * d' ≤ R.locals; omega⟩, hG _ hstat, trivial⟩ ⟨zblind hok, hpre⟩ rfl (by rw [List.length_map]; exact hnA) hl.1 (by rw [List.map_append, List.map_reverse]) (by show 2 * 0 + _ ≤ 8; rw [zrest]; omega) hdg ⟨by omega, by omega⟩
    refine zafter (r := r) (r' := r') (fin := fin) hA hD hl rfl (hgg.imp id (fun h => by omega)) (by rw [hS', Nat.zero_add]) (by rw [hS', Nat.zero_add]) (by omega) (by omega) (fun H' locs' lsr' hD' hl' => ?_) hrun hT X
    rw [hfs] at hD'
    exact kk r' r hr p e R s m args below meth c H' locs' _ _ c0 s0 lsr' hA hD' hl'
/-- a constructor's call, in a constructor -/
theorem aj_callI {k idx nA : Nat} {o' : Option zH} {f : zH → Option zH} {S : List (Nat × Nat)} {M : zM} (hg : w.2.2.2.2.2 = 0) (hc : CT zfC w d' mi' (.ref k :: as) (S, M) o') (hmf : zMF mi' nA) (hnA : as.length = nA) (hret : mi'.2.2.2 = none) (hin : mi'.1.name = "<init>") (hinst : Cond.instanceMethod mi'.1 ∈ zG) (hlink : zMl mi.1.cls idx mi'.1) (hd : d' + 1 ≤ d) (hst : (st.map fun v => v.category).sum ≤ 8) (hdg : decode mi.2.1 pc = .ok (.invokespecial idx, 3))
    (kk : ∀ r', AJ zfC w d mi (pc + 3) ls st r' (f r')) : AJ zfC w d mi pc ls (as.reverse ++ .ref k :: st) (S, M) (zmk S o' f) := by
  intro r hr p e R s m args below meth c H locs cells slots c0 s0 lsr hA hD hl
  obtain ⟨r', ho, hr, g1, g2, g3, g4⟩ := zmk_some hr
  intro T hT X
  have hsz := zsize hD hT X
  obtain ⟨hx, hb, -, hml, hown, -, hG, -, hK, hN, hZ, hok, hfr, hlo, hBs⟩ := id hA
  obtain ⟨hP, hS, h1, h2, h3, h4, h5, h6, h7, hgg⟩ := id hD
  have h2' : cells + c0 = S.length := h2
  have h3' : slots + s0 = zsl S := h3
  have h6' : R.cells + c0 = r.1.length := h6
  have h7' : R.slots + s0 = zsl r.1 := h7
  have e1 : (r'.1.length - S.length) + S.length = r'.1.length := by omega
  have e2 : (zsl r'.1 - zsl S) + zsl S = zsl r'.1 := by omega
  have hM := hc r' ho (r'.1.length - S.length) (zsl r'.1 - zsl S) e1 e2 hok
  rw [hret] at hM
  obtain ⟨⟨hm1, hm2⟩, hm3, hm4⟩ := hmf
  rw [hret] at hm1
  have hpre := zpre hA hD hsz (.ref k :: as)
  have hfin : cells + (r'.1.length - S.length) ≤ R.cells ∧ slots + (zsl r'.1 - zsl S) ≤ R.slots := ⟨by omega, by omega⟩
  have hR : d' + 1 ≤ R.frames ∧ 8 + (mi'.2.2.1 + 11) + 60 * d' ≤ R.locals := ⟨by omega, by omega⟩
  have hrun : va_Run p w.1 e R s m args below meth c H locs cells slots (r'.1.length - S.length) (zsl r'.1 - zsl S) (F0 m pc lsr ((as.reverse ++ .ref k :: st).map (zv w.2.2.2.1))) (st.map (zv w.2.2.2.1)) (zQ w (zfC r') (Value.ref (w.2.2.2.1 + k) :: as.map (zv w.2.2.2.1)).toArray) (fun q => w.2.2.2.1 ≤ q) := by
    rcases hlink with hlink | ⟨host, hlink⟩
    · exact va_runI (As := as.map (zv w.2.2.2.1)) (rest := st.map (zv w.2.2.2.1)) (b := w.2.2.2.1 + k) (Ts := zG) (own := mi.1.cls) (index := idx) (n := nA) ⟨hx, hb, hml, hown, hG⟩ hM ⟨callB_of nA hG (zgood (ws := zG) hm1) rfl rfl rfl (hG _ hm2) (hG _ hlink) hm3 hR, hin, hG _ hinst⟩ ⟨zblind hok, hpre⟩ rfl (by rw [List.length_map]; exact hnA) hl.1 (by rw [List.map_append, List.map_reverse]; rfl) (by show 2 * 0 + _ ≤ 8; rw [zrest]; omega) hdg hfin
    · exact va_runIN (As := as.map (zv w.2.2.2.1)) (rest := st.map (zv w.2.2.2.1)) (b := w.2.2.2.1 + k) (Ts := zG) (own := mi.1.cls) (index := idx) (n := nA) (host := host) ⟨hx, hb, hml, hown, hG⟩ hM ⟨va_cnB nA hG (zgood (ws := zG) hm1) rfl rfl rfl (hN _ hlink) (hG _ hm2) hm3 hR, hin, hG _ hinst⟩ ⟨zblind hok, hpre⟩ rfl (by rw [List.length_map]; exact hnA) hl.1 (by rw [List.map_append, List.map_reverse]; rfl) (by show 2 * 0 + _ ≤ 8; rw [zrest]; omega) hdg hfin
  refine zafter (r := r) (r' := r') (fin := zfC) (fin' := zfC) hA hD hl rfl (Or.inl hg) e1 e2 hfin.1 hfin.2 (fun H' locs' lsr' hD' hl' => ?_) hrun hT X
  exact kk r' r hr p e R s m args below meth c H' locs' _ _ c0 s0 lsr' hA hD' hl'
theorem aj_obj {k idx : Nat} (hlink : Cond.methodLink mi.1.cls idx Lib.objectInit ∈ zG) (hinst : Cond.instanceMethod Lib.objectInit ∈ zG) (hcode : Cond.code Lib.objectInit ⟨#[0xb1]⟩ 1 none ∈ zG) (hd : 1 ≤ d) (hst : (st.map fun v => v.category).sum ≤ 8) (hdg : decode mi.2.1 pc = .ok (.invokespecial idx, 3)) (kk : AJ fin w d mi (pc + 3) ls st σ o) : AJ fin w d mi pc ls (.ref k :: st) σ o := by
  intro r hr p e R s m args below meth c H locs cells slots c0 s0 lsr hA hD hl
  obtain ⟨hx, hb, -, hml, hown, -, hG, -, -, -, -, -, hfr, hlo, -⟩ := id hA
  refine W.objInit hx hb hown (hG _ hlink) (hG _ hinst) (hG _ hcode) rfl (by rw [hml]; exact hl.1) rfl hdg (by omega) ?_ ?_
  · show 2 * 0 + _ + 12 ≤ R.locals
    rw [zrest]
    omega
  · exact kk r hr p e R s m args below meth c H locs cells slots c0 s0 lsr hA hD hl
end ZC
