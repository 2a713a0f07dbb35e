/-! from the formula to the contract, and from a contract to a call; a contract in a larger world -/
section ZM
def zini : Nat → List Value → zL
  | 0, _ => []
  | n + 1, v :: r => some v :: zini n r
  | n + 1, [] => none :: zini n []
theorem zini_len : ∀ (n : Nat) (av : List Value), (zini n av).length = n
  | 0, _ => rfl
  | n + 1, v :: r => congrArg (· + 1) (zini_len n r)
  | n + 1, [] => congrArg (· + 1) (zini_len n [])
theorem zini_args (ad : Nat → Nat) : ∀ (n : Nat) (av : List Value), av.all zsm = true → ∀ (b : Nat) (q : Nat × Value), q ∈ zll ad b (zini n av) → q ∈ lv_args b (av.map (zv ad))
  | 0, _, _, _, q, h => by cases h
  | n + 1, [], _, b, q, h => by
    have h1 : q ∈ zll ad (b + 1) (zini n []) := h
    exact absurd (zini_args ad n [] rfl (b + 1) q h1) (by simp [lv_args])
  | n + 1, v :: r, hs, b, q, h => by
    simp only [List.all_cons, Bool.and_eq_true] at hs
    have ih := zini_args ad n r hs.2 (b + 1) q
    cases v with
    | int z =>
      rcases List.mem_cons.mp (show q ∈ (b, Value.int z) :: zll ad (b + 1) (zini n r) from h) with h | h
      · rw [h]; exact List.mem_cons_self
      · exact List.mem_cons_of_mem _ (ih h)
    | ref z =>
      rcases List.mem_cons.mp (show q ∈ (b, Value.ref (ad z)) :: zll ad (b + 1) (zini n r) from h) with h | h
      · rw [h]; exact List.mem_cons_self
      · exact List.mem_cons_of_mem _ (ih h)
    | null =>
      rcases List.mem_cons.mp (show q ∈ (b, Value.null) :: zll ad (b + 1) (zini n r) from h) with h | h
      · rw [h]; exact List.mem_cons_self
      · exact List.mem_cons_of_mem _ (ih h)
    | long z => cases hs.1
    | float z => cases hs.1
    | double z => cases hs.1
    | retAddr z => cases hs.1
theorem zsl_len (ad : Nat → Nat) : ∀ (av : List Value), av.all zsm = true → (lg_sl (av.map (zv ad))).length = av.length
  | [], _ => rfl
  | v :: r, hs => by
    simp only [List.all_cons, Bool.and_eq_true] at hs
    have ih := zsl_len ad r hs.2
    have key : ∀ w : Value, w.category = 1 → (lg_sl (w :: r.map (zv ad))).length = r.length + 1 := by
      intro w hw
      simp only [lg_sl, List.flatMap_cons, hw] at ih ⊢
      simp only [List.length_append, ih]
      simp
      omega
    cases v with
    | int z => exact key _ rfl
    | ref z => exact key _ rfl
    | null => exact key _ rfl
    | long z => cases hs.1
    | float z => cases hs.1
    | double z => cases hs.1
    | retAddr z => cases hs.1
theorem vx_ofWF {l : Launch} {y : MethodName} {ws ws' : List Cond} {rm : Room} {Pc : Array Value → State → Prop} {Qc : Array Value → State → Outcome → State → Prop} {XC : String → State → State → Prop} {mc ms : Nat} {free : Addr → Prop} {cc : ByteArray} {maxL : Nat} {ret : Option FieldType}
    (hy : plainFor y = true) (hw : ws = Cond.code y cc maxL ret :: ws')
    (body : ∀ p e s m args below meth c s₁, BodyLoose p l y (headSpec ws rm) cc maxL ret e s m args below meth c s₁ → c.maxLocals = maxL → (∀ x ∈ c.exceptionTable.toList, False) → Pc args s →
      W p l e (headSpec ws rm).room s m args below meth c s.heap [] 0 0 (vx_MQ below Qc XC args s mc ms free) (entryFrame m args maxL)) : vx_Met l y ws rm Pc Qc XC mc ms free := by
  refine MetFree.of_bodySF (code := cc) (maxLocals := maxL) (ret := ret) hy ?_ ?_
  · intro args s m h hn
    obtain ⟨meth, c, h1, h2, h3, h4, h5, h6, -, -⟩ := Cond.code_spec hn (atoms_spec (ws := ws) h _ (by rw [hw]; exact List.mem_cons_self))
    exact ⟨meth, c, h1, h2, h3, h4, h5, h6⟩
  · intro p e s m args below meth c s₁ B hml hP _
    have hh0 : s₁.heap = s.heap := by rw [B.state]; rfl
    have ht : ∀ x ∈ c.exceptionTable.toList, False := by
      obtain ⟨meth9, c9, h1, h2, -, -, -, -, h7, -⟩ := Cond.code_spec B.named (atoms_spec (ws := ws) B.pre _ (by rw [hw]; exact List.mem_cons_self))
      cases Option.some.inj (h1.symm.trans B.method)
      cases Option.some.inj (h2.symm.trans (Stand.of_body B).code)
      intro x hx
      rw [Array.isEmpty_iff.mp h7] at hx
      cases hx
    obtain ⟨t, a1, o, b1, b2, b3⟩ := body p e s m args below meth c s₁ B hml ht hP s₁ hh0 (Stand.of_body B)
    exact ⟨t, o, a1, b1, b2, b3⟩
theorem zmet {Y : zM} {y : MethodName} {sp : zSp} (hown : y.cls = zMo Y) (hy : plainFor y = true)
    (h : ∀ av F ok ex, sp av F ok ex → zWP Y ok ex 0 (zini (zMl Y) av) [] 0 0 F) : zMet (zMu Y) y (zMc Y) (zMl Y) (zMt Y) (zMr Y) sp := by
  intro l hfl D cA ad F sz av ok ex hsp hinj
  intro hall hlen
  refine vx_ofWF (cc := zMc Y) (maxL := zMl Y) (ret := zMt Y) hy rfl ?_
  intro p e s m args below meth c s₁ B hml hout hv
  obtain ⟨rfl, hsz, hP, hK, hZ⟩ := hv
  subst hsz
  have hts0 := atoms_spec (ws := Cond.code y (zMc Y) (zMl Y) (zMt Y) :: zts) B.pre
  have hent := lv_entry (av.map (zv ad)) (n := zMl Y) (by rw [zsl_len ad av hall]; exact hlen)
  rw [lg_entry_eq]
  have hl : lv_has _ (zMl Y) (zll ad 0 (zini (zMl Y) av)) := ⟨hent.1, hent.2.1, fun q hq => hent.2.2 q (zini_args ad _ av hall 0 q hq)⟩
  exact h av F ok ex hsp p l e s m _ below meth c D cA ad ⟨B.exec, B.bytes, B.returns, hml, by rw [← hown]; exact findClass_of_methodNamed B.named, fun w hw => hts0 w (List.mem_cons_of_mem _ hw), B.notSynchronized, hout, hK, hZ, hinj, hfl⟩
    s.heap [] _ hP va_S.rf hl (by rw [zini_len]; exact Nat.le_refl _) (Nat.zero_le _) (Nat.zero_le _)
theorem zts_good {w : Cond} (h : w ∈ zts) : goodWord w = true := (List.mem_filter.mp h).2
/-- may the receiver j be called as an object of the class number ci -/
def zrc (U : zU) (ci j : Nat) : Bool := Nat.blt j U.1 && (match U.2 j with
  | (0, ci', _) => Nat.beq ci ci'
  | _ => false)
def zvsP (U : zU) (ci : Nat) (sp : zSp) : zSp := fun as F ok ex => match as with
  | .ref j :: r => ∃ _ : zrc U ci j = true, sp (.ref j :: r) F ok ex
  | _ => False
def zvs (U : zU) (ci : Nat) (sp : zSp) : zSp := fun as F ok ex => match as with
  | .ref j :: r => match zrc U ci j with
    | true => sp (.ref j :: r) F ok ex
    | false => False
  | _ => False
theorem zvs_P {U : zU} {ci : Nat} {sp : zSp} {as : List Value} {F : zF} {ok : zO} {ex : zX} (h : zvs U ci sp as F ok ex) : zvsP U ci sp as F ok ex := by
  unfold zvs at h
  unfold zvsP
  split at h
  · split at h
    · rename_i hq
      exact ⟨hq, h⟩
    · exact h.elim
  · exact h.elim
theorem zrc_at {D : va_G} {cA : zT} {U : zU} {ad : Nat → Nat} {F : zF} {ci j : Nat} {C : String} {T : u_T} {N : Nat} {H : Heap} {s : State} (h : zrc U ci j = true) (hc : zcl[ci]? = some (C, T, N)) (hK : zK D cA s) (hP : va_P D zcl (zWs cA U ad F) H) :
    ∃ cell : Cell, H[ad j]? = some cell ∧ cell.vm.isStatics = false ∧ s.vm.findClass C = some cell.cls := by
  simp only [zrc, Bool.and_eq_true] at h
  obtain ⟨h1, h2⟩ := h
  have hj : j < U.1 := by simpa using h1
  split at h2
  · rename_i ci' sl hsh
    have := Nat.eq_of_beq_eq_true h2
    subst this
    have hat := zWs_at cA U ad F hj
    rw [hsh] at hat
    exact va_recv hK.1 hP hc hat
  · cases h2
theorem zA_at {U : zU} {ad : Nat → Nat} {A : Nat → Prop} {H0 H : Heap} {locs : List Loc} (hS : va_S A H0 H locs) : ∀ q, zA U ad H.size q → zA U ad H0.size q := fun q h => h.elim Or.inl fun h => Or.inr (Nat.le_trans hS.1 h)
section ZCal
variable {Y : zM} {y : MethodName} {cc : ByteArray} {nL : Nat} {ret : Option FieldType} {rm : Room} {sp : zSp}
theorem zcalB {s : State} {args : Array Value} (ix n : Nat) (hts : ∀ w ∈ zts, w.before args s = true) (hw : ∀ w ∈ [Cond.methodLink (zMo Y) ix y, Cond.initialized y.cls, Cond.code y cc nL ret], w ∈ zts)
    (hd : y.cls ≠ "java/lang/invoke/MethodHandle" ∧ y.cls ≠ "java/lang/invoke/VarHandle" ∧ (parseMethodDescriptor y.desc).map (fun d => d.parameters.length) = some n) (hR : rm.frames + 1 ≤ (zMr Y).frames ∧ 8 + (nL + 11) + rm.locals ≤ (zMr Y).locals) :
    CallB (zMr Y) s args (zMo Y) ix y cc nL ret (Cond.code y cc nL ret :: zts) rm rm.cells rm.slots n := by
  refine callB_of n hts (fun w h => ?_) rfl rfl rfl (hts _ (hw _ (by simp))) (hts _ (hw _ (by simp))) hd hR
  have hz : w ∈ zts := by
    rcases List.mem_cons.mp h with rfl | h
    · exact hw _ (by simp)
    · exact h
  exact ⟨hz, good_of_word (zts_good hz)⟩
theorem zback {ok : zO} {ex : zX} {ok' : zO} {pc : Nat} {ls : zL} {r : List Value} {kc ks : Nat} {mc ms : Nat} {st0 : List Value} {a : Array Value}
    (hkc : kc + mc ≤ (zMr Y).cells) (hks : ks + ms ≤ (zMr Y).slots) (hcont : ∀ (q : Option Value) (F' : zF), ok' q F' → zWP Y ok ex (pc + 3) ls (q.toList ++ r) (kc + mc) (ks + ms) F')
    {p : Program} {l : Launch} {e : Env} {s : State} {m : MethodId} {args : Array Value} {below : List Frame} {meth : Method} {c : Code} {D : va_G} {cA : zT} {ad : Nat → Nat} (hC : zCtx Y p l s m args meth c D cA ad)
    {H : Heap} {locs : List Loc} {lsl : Array Slot} (hS : va_S (zA (zMu Y) ad s.heap.size) s.heap H locs) (hl : lv_has lsl (zMl Y) (zll ad 0 ls)) (hln : ls.length ≤ zMl Y)
    (hr : vx_Run p l e (zMr Y) s m args below meth c H locs kc ks mc ms (F0 m pc lsl st0) (r.map (zv ad)) (zQ D cA (zMu Y) ad ok' (zA (zMu Y) ad H.size) a) (zQx D cA (zMu Y) ad ex (zA (zMu Y) ad H.size)) (zA (zMu Y) ad H.size)) :
    W p l e (zMr Y) s m args below meth c H locs kc ks (vx_MQ below (zQ D cA (zMu Y) ad ok (zA (zMu Y) ad s.heap.size)) (zQx D cA (zMu Y) ad ex (zA (zMu Y) ad s.heap.size)) args s (zMr Y).cells (zMr Y).slots (zA (zMu Y) ad s.heap.size)) (F0 m pc lsl st0) := by
  obtain ⟨hx, hb, hrt, hml, hown, hts, hlocks, hout, hK, hZ, hinj, hfl⟩ := id hC
  have hf := zA_at (U := zMu Y) (ad := ad) hS
  intro T hT X
  rcases hr T hT X with ⟨v, st₀, t, T', L, h0, X', hL, e1, e2, ⟨⟨q, F', hv, hok, hP'⟩, hF⟩, st⟩ | ⟨q9, st₀, t, T', L, E, ce, h0, X', hL, e1, e2, ⟨⟨F', hex, hP'⟩, hF⟩, hce, hcv, hcl, st⟩
  · obtain ⟨k1, k2, k3⟩ := vx_keep h0 e1 hS (fun q _ h => hf q h) hf hL hF
    cases hv
    obtain ⟨t2, a1, b1⟩ := hcont q F' hok p l e s m args below meth c D cA ad hC T'.heap (locs ++ L) lsl (by rw [e1]; exact hP') k3 hl hln hkc hks T' rfl X'
    refine ⟨t2, st t2 ?_, b1⟩
    cases q with
    | none => exact a1
    | some v => exact a1
  · obtain ⟨k1, k2, k3⟩ := vx_keep h0 e1 hS (fun q _ h => hf q h) hf hL hF
    obtain ⟨t2, a1, b1⟩ := vx_out (e := e) (below := below) (R := zMr Y) (l := l) (p := p) (pc := pc) (ls := lsl) (rest := r.map (zv ad)) (Qc := zQ D cA (zMu Y) ad ok (zA (zMu Y) ad s.heap.size)) (XC := zQx D cA (zMu Y) ad ex (zA (zMu Y) ad s.heap.size)) (H := T'.heap) (locs := locs ++ L) (args := args)
      (fun x hx => (hout x hx).elim) hlocks (by rw [e1]; exact hce) hcv hcl (fun t9 h9 _ => ⟨⟨F', hex, by rw [h9, e1]; exact hP'⟩, k3.F h9⟩) k3.2.2 hkc hks T' rfl X'
    exact ⟨t2, st.trans a1, b1⟩
theorem zpreB {p : Program} {l : Launch} {s : State} {m : MethodId} {args : Array Value} {meth : Method} {c : Code} {D : va_G} {cA : zT} {ad : Nat → Nat} {F : zF} (hC : zCtx Y p l s m args meth c D cA ad)
    {H : Heap} {locs : List Loc} (hP : va_P D zcl (zWs cA (zMu Y) ad F) H) (hS : va_S (zA (zMu Y) ad s.heap.size) s.heap H locs) (U : State) (hU : U.heap = H) (hW : s.WarmedH U.vm) : zB D cA (zMu Y) ad F H.size U := by
  obtain ⟨hx, hb, hrt, hml, hown, hts, hlocks, hout, hK, hZ, hinj, hfl⟩ := id hC
  exact ⟨by rw [hU], by rw [hU]; exact hP, zK.warm hW hK, by rw [hU]; exact ((hZ.kept hS.2.1).moved hW.alike).narrow (zA_at hS)⟩
theorem zcalV (hM : zMet (zMu Y) y cc nL ret rm sp) (ix n ci : Nat) {T : u_T} {N : Nat} (hci : zcl[ci]? = some (y.cls, T, N)) (hw : ∀ w ∈ [Cond.methodLink (zMo Y) ix y, Cond.initialized y.cls, Cond.code y cc nL ret, Cond.instanceMethod y, Cond.selects y.cls y y], w ∈ zts)
    (hd : y.cls ≠ "java/lang/invoke/MethodHandle" ∧ y.cls ≠ "java/lang/invoke/VarHandle" ∧ (parseMethodDescriptor y.desc).map (fun d => d.parameters.length) = some n) (hn : n + 1 ≤ nL) (hR : rm.frames + 1 ≤ (zMr Y).frames ∧ 8 + (nL + 11) + rm.locals ≤ (zMr Y).locals) :
    zCal Y true ix (n + 1) rm.cells rm.slots (zvsP (zMu Y) ci sp) := by
  intro pc hdg ok ex ls as r kc ks F ok' hlen hall hwt hkc hks hsp hcont
  intro p l e s m args below meth c D cA ad hC H locs lsl hP hS hl hln _ _
  obtain ⟨hx, hb, hrt, hml, hown, hts, hlocks, hout, hK, hZ, hinj, hfl⟩ := id hC
  rcases as with _ | ⟨v0, r'⟩
  · exact hsp.elim
  cases v0 with
  | ref j =>
    obtain ⟨hrc, hsp⟩ := hsp
    have cb := zcalB (Y := Y) (cc := cc) (nL := nL) (ret := ret) (rm := rm) ix n hts (fun w h => hw w (List.mem_append_left [Cond.instanceMethod y, Cond.selects y.cls y y] h)) hd hR
    have hr := vx_runV (e := e) (below := below) (locs := locs) (cells := kc) (slots := ks) (As := r'.map (zv ad)) (rest := r.map (zv ad)) (g := F0 m pc lsl ((List.reverse (Value.ref j :: r') ++ r).map (zv ad))) (meth := meth) ⟨hx, hb, hml, hown, hts⟩ (hM l hfl D cA ad F H.size _ ok' ex hsp hinj hall (by rw [hlen]; exact hn)) ⟨cb, hts _ (hw _ (by simp)), hts _ (hw _ (by simp))⟩
      ⟨zB.blind, zrc_at hrc hci hK hP, fun U hU hW => ⟨rfl, zpreB hC hP hS U hU hW⟩⟩ rfl (by simp at hlen ⊢; exact hlen) hl.1 (by simp [zv]) (lv_room (by rw [zwt_cat]; exact hwt)) hdg ⟨hkc, hks⟩
    exact zback hkc hks hcont hC hS hl hln hr
  | _ => exact hsp.elim
theorem zcalS (hM : zMet (zMu Y) y cc nL ret rm sp) (ix n : Nat) (hw : ∀ w ∈ [Cond.methodLink (zMo Y) ix y, Cond.initialized y.cls, Cond.code y cc nL ret, Cond.static y], w ∈ zts)
    (hd : y.cls ≠ "java/lang/invoke/MethodHandle" ∧ y.cls ≠ "java/lang/invoke/VarHandle" ∧ (parseMethodDescriptor y.desc).map (fun d => d.parameters.length) = some n) (hn : n ≤ nL) (hR : rm.frames + 1 ≤ (zMr Y).frames ∧ 8 + (nL + 11) + rm.locals ≤ (zMr Y).locals) :
    zCal Y false ix n rm.cells rm.slots sp := by
  intro pc hdg ok ex ls as r kc ks F ok' hlen hall hwt hkc hks hsp hcont
  intro p l e s m args below meth c D cA ad hC H locs lsl hP hS hl hln _ _
  obtain ⟨hx, hb, hrt, hml, hown, hts, hlocks, hout, hK, hZ, hinj, hfl⟩ := id hC
  have cb := zcalB (Y := Y) (cc := cc) (nL := nL) (ret := ret) (rm := rm) ix n hts (fun w h => hw w (List.mem_append_left [Cond.static y] h)) hd hR
  have hr := vx_runS (e := e) (below := below) (locs := locs) (cells := kc) (slots := ks) (As := as.map (zv ad)) (rest := r.map (zv ad)) (g := F0 m pc lsl ((List.reverse as ++ r).map (zv ad))) (meth := meth) ⟨hx, hb, hml, hown, hts⟩ (hM l hfl D cA ad F H.size _ ok' ex hsp hinj hall (by rw [hlen]; exact hn)) ⟨cb, hts _ (hw _ (by simp))⟩
    ⟨zB.blind, fun U hU hW => ⟨rfl, zpreB hC hP hS U hU hW⟩⟩ rfl (by simp [hlen]) hl.1 (by simp) (lv_room (by rw [zwt_cat]; exact hwt)) hdg ⟨hkc, hks⟩
  exact zback hkc hks hcont hC hS hl hln hr
end ZCal
end ZM
