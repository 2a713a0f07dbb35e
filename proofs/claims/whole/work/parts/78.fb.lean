/-! the law's own calls: what they catch -/
section ZFb
set_option maxRecDepth 20000
def zsix : List String := [xI, xA, xS, xE, xU, xR]
def zNc (S : State) : Prop := ∀ a ∈ zsix, ∀ b ∈ zsix, a ≠ b → va_Nc a b S
theorem zNc.moved {u U : State} (hvm : u.vm.Alike U.vm) (h : zNc u) : zNc U := fun a ha b hb hab => va_Nc.moved hvm (h a ha b hb hab)
abbrev zHd : Type := (Nat × Nat × Nat × Nat) × String
def zhr (cc : ByteArray) (p i : Nat) : Bool := (match decode cc p with
  | .ok (.iconst v, 1) => decide (Int32.ofInt v = nI i)
  | _ => false) && (match decode cc (p + 1) with
  | .ok (.ireturn, 1) => true
  | _ => false)
def zhh (cc : ByteArray) (nL p i : Nat) : Bool := match decode cc p with
  | .ok (.astore n, 2) => decide (n < nL) && zhr cc (p + 2) i
  | .ok (.astore_n n, 1) => decide (n.val < nL) && zhr cc (p + 1) i
  | _ => false
def zh1 (pc : Nat) (q : zHd) : Bool := decide (q.1.1 ≤ pc) && (decide (pc < q.1.2.1) && (decide (q.1.2.2.2 ≠ 0) && decide (q.2 ∈ zsix)))
def zhw (own : String) (hs : List zHd) : Prop := ∀ q ∈ hs, Cond.classLink own q.1.2.2.2 q.2 ∈ zts ∧ Cond.castable q.2 q.2 ∈ znw
def zhs (cc : ByteArray) (nL pc : Nat) : List zHd → Nat → Bool
  | [], _ => true
  | q :: r, i => zh1 pc q && (zhh cc nL q.1.2.2.1 i && zhs cc nL pc r (i + 1))
theorem zhr_ok {cc : ByteArray} {p i : Nat} (h : zhr cc p i = true) : ∃ v, decode cc p = .ok (.iconst v, 1) ∧ Int32.ofInt v = nI i ∧ decode cc (p + 1) = .ok (.ireturn, 1) := by
  unfold zhr at h
  rw [Bool.and_eq_true] at h
  obtain ⟨h1, h2⟩ := h
  split at h1
  · rename_i v hd
    split at h2
    · rename_i hd2
      exact ⟨v, hd, of_decide_eq_true h1, hd2⟩
    · cases h2
  · cases h1
theorem zh1_ok {pc : Nat} {q : zHd} (h : zh1 pc q = true) : (q.1.1 ≤ pc ∧ pc < q.1.2.1) ∧ q.1.2.2.2 ≠ 0 ∧ q.2 ∈ zsix := by
  unfold zh1 at h
  rw [Bool.and_eq_true, Bool.and_eq_true, Bool.and_eq_true] at h
  obtain ⟨h1, h2, h3, h6⟩ := h
  exact ⟨⟨of_decide_eq_true h1, of_decide_eq_true h2⟩, of_decide_eq_true h3, of_decide_eq_true h6⟩
theorem zhand {cc : ByteArray} {nL pc : Nat} : ∀ (hs : List zHd) (i : Nat), zhs cc nL pc hs i = true → ∀ E, E ∈ hs.map Prod.snd →
    ∃ pre x suf j, hs = pre ++ x :: suf ∧ x.2 = E ∧ (∀ z ∈ pre, z.2 ≠ E ∧ zh1 pc z = true) ∧ zh1 pc x = true ∧ zhh cc nL x.1.2.2.1 j = true ∧ eCd (hs.map Prod.snd) (nI i) E = nI j
  | [], _, _, _, hE => nomatch hE
  | q :: r, i, h, E, hE => by
    simp only [zhs, Bool.and_eq_true] at h
    obtain ⟨h1, h2, h3⟩ := h
    by_cases hq : E = q.2
    · exact ⟨[], q, r, i, rfl, hq.symm, fun z hz => (nomatch hz), h1, h2, if_pos hq⟩
    · have hE2 : E ∈ r.map Prod.snd := (List.mem_cons.mp hE).resolve_left hq
      obtain ⟨pre, x, suf, j, g1, g2, g3, g4, g5, g6⟩ := zhand r (i + 1) h3 E hE2
      refine ⟨q :: pre, x, suf, j, by rw [g1]; rfl, g2, fun z hz => ?_, g4, g5, ?_⟩
      · rcases List.mem_cons.mp hz with rfl | hz
        · exact ⟨fun e => hq e.symm, h1⟩
        · exact g3 z hz
      · refine (if_neg hq).trans ?_
        rw [nI_1]
        exact g6
def zKl (Y : zM) (hs : List zHd) : zKt := fun p l _ s m args _ meth c D cA ad => p.tables.exec = Jvm.exec ∧ c.code = zMc Y ∧ meth.sig.returnType = some .int ∧ c.maxLocals = zMl Y ∧ s.vm.findClass (zMo Y) = some m.cls ∧ (∀ w ∈ zts, w.before args s = true) ∧ meth.locks = false ∧
  c.exceptionTable.toList = tableOf (hs.map Prod.fst) ∧ zK D cA s ∧ zZ (zA (zMu Y) ad s.heap.size) s s.heap ∧ zinj (zMu Y) ad ∧ l.flags = flags0 ∧ zNc s
def zQl (Y : zM) (ok : zO) : zQt := fun _ _ s _ args below D cA ad => vx_MQ below (zQ D cA (zMu Y) ad ok (zA (zMu Y) ad s.heap.size)) (zQx D cA (zMu Y) ad zX0 (zA (zMu Y) ad s.heap.size)) args s (zMr Y).cells (zMr Y).slots (zA (zMu Y) ad s.heap.size)
def zAl (Y : zM) : zAt := fun s ad => zA (zMu Y) ad s.heap.size
def zxk (Y : zM) (hs : List zHd) (ok : zO) : Nat → zX := fun pc E F' => (zhs (zMc Y) (zMl Y) pc hs 1 = true ∧ zhw (zMo Y) hs) ∧ E ∈ hs.map Prod.snd ∧ ok (some (.int (eCd (hs.map Prod.snd) 1 E))) F'
theorem zKl_ok (Y : zM) (hs : List zHd) : zKok Y (zKl Y hs) (zAl Y) := by
  intro p l e s m args below meth c D cA ad hC
  obtain ⟨hx, hb, hr, hml, hown, hts, hlocks, hout, hK, hZ, hinj, hfl, hn⟩ := hC
  exact ⟨⟨hx, hb, hml, hown, hts, hK, hZ, hinj, hfl⟩, fun q h => Or.inr h, fun k hk => Or.inl ⟨k, hk, rfl⟩⟩
theorem zretL {Y : zM} {hs : List zHd} {ok : zO} (pc : Nat) (hd : decode (zMc Y) pc = .ok (.ireturn, 1)) (ls : zL) (x : Int32) (kc ks : Nat) (F : zF) (h : ok (some (.int x)) F) : zXW Y (zKl Y hs) (zQl Y ok) (zAl Y) pc ls [.int x] kc ks F := by
  intro p l e s m args below meth c D cA ad hC H locs lsl hP hS hl hln hkc hks
  obtain ⟨hx, hb, hr, hml, hown, hts, hlocks, hout, hK, hZ, hinj, hfl, hn⟩ := hC
  exact vx_ret (W.widen hkc hks (W.iret hx hb hr (fun t ht hW => ⟨⟨some (.int x), F, rfl, h, by rw [ht]; exact hP⟩, hS.F ht⟩) hS.2.2 hd))
theorem zcatchL {Y : zM} {hs : List zHd} {ok : zO} {pc : Nat} {E : String} {F : zF} (hx9 : zxk Y hs ok pc E F)
    {p : Program} {l : Launch} {e : Env} {s : State} {m : MethodId} {args : Array Value} {below : List Frame} {meth : Method} {c : Code} {D : va_G} {cA : zT} {ad : Nat → Nat} (hC : zKl Y hs p l e s m args below meth c D cA ad)
    {H : Heap} {locs : List Loc} {lsl : Array Slot} {ls : zL} {rest : List Value} {kc ks : Nat} (hP : va_P D zcl (zWs cA (zMu Y) ad F) H) (hS : va_S (zAl Y s ad) s.heap H locs) (hl : lv_has lsl (zMl Y) (zll ad 0 ls)) (hkc : kc ≤ (zMr Y).cells) (hks : ks ≤ (zMr Y).slots)
    {ce : Cell} {q : Addr} (hcell : H[q]? = some ce) (hv : ce.vm = .none) (hcl : s.vm.findClass E = some ce.cls) :
    vx_W p l e (zMr Y) s m args below meth c H locs kc ks (zQl Y ok p e s m args below D cA ad) (F0 m pc lsl rest) q := by
  obtain ⟨⟨h1, hw9⟩, h2, h3⟩ := hx9
  obtain ⟨hx, hb, hr, hml, hown, hts, hlocks, hout, hK, hZ, hinj, hfl, hn⟩ := hC
  obtain ⟨pre, x, suf, j, g1, g2, g3, g4, g5, g6⟩ := zhand hs 1 h1 E h2
  obtain ⟨⟨c1, c2⟩, c3, c6⟩ := zh1_ok g4
  obtain ⟨c4, c5⟩ := hw9 x (by rw [g1]; exact List.mem_append_right _ List.mem_cons_self)
  subst g2
  have hval : eCd (hs.map Prod.snd) 1 x.2 = nI j := g6
  rw [hval] at h3
  have hcast : (Cond.castable x.2 x.2).before args s = true := va_Nw.use rfl (hK.2.1 _ c5)
  refine vx_catch (own := zMo Y) (name := x.2) hown (pre.map fun z => ⟨z.1.1, z.1.2.1, z.1.2.2.1, z.1.2.2.2⟩) ⟨x.1.1, x.1.2.1, x.1.2.2.1, x.1.2.2.2⟩ (suf.map fun z => ⟨z.1.1, z.1.2.1, z.1.2.2.1, z.1.2.2.2⟩) ?_ ?_ ?_ c3 (hts _ c4) hcast hcell hv hcl ?_
  · rw [hout, g1]
    unfold tableOf
    rw [List.map_map, List.map_append, List.map_cons]
    rfl
  · intro z hz
    obtain ⟨z', hz', rfl⟩ := List.mem_map.mp hz
    obtain ⟨k1, k2⟩ := g3 z' hz'
    obtain ⟨-, d3, d6⟩ := zh1_ok k2
    obtain ⟨d4, d5⟩ := hw9 z' (by rw [g1]; exact List.mem_append_left _ hz')
    exact Or.inr ⟨d3, z'.2, hts _ d4, hn _ c6 _ d6 (fun e => k1 e.symm)⟩
  · show (decide (x.1.1 ≤ pc) && decide (pc < x.1.2.1)) = true
    rw [decide_eq_true c1, decide_eq_true c2]
    rfl
  · show W p l e (zMr Y) s m args below meth c H locs kc ks _ (F0 m x.1.2.2.1 lsl [.ref q])
    have hend : ∀ (r : Nat) (lsl' : Array Slot), zhr (zMc Y) r j = true → W p l e (zMr Y) s m args below meth c H locs kc ks (zQl Y ok p e s m args below D cA ad) (F0 m r lsl' []) := fun r lsl' hr9 => by
      obtain ⟨v, e1, e2, e3⟩ := zhr_ok hr9
      refine lv_iconst hx hb e1 e2 ?_
      exact vx_ret (W.widen hkc hks (W.iret hx hb hr (fun t ht hW => ⟨⟨some (.int (nI j)), F, rfl, h3, by rw [ht]; exact hP⟩, hS.F ht⟩) hS.2.2 e3))
    unfold zhh at g5
    split at g5
    · rename_i n hd
      rw [Bool.and_eq_true] at g5
      exact lv_astore hx hb hd hl (of_decide_eq_true g5.1) rfl (fun lsl' _ => hend _ lsl' g5.2)
    · rename_i n hd
      rw [Bool.and_eq_true] at g5
      exact lv_astore_n hx hb hd rfl hl (of_decide_eq_true g5.1) rfl (fun lsl' _ => hend _ lsl' g5.2)
    · cases g5
section ZCalL
variable {Y : zM} {y : MethodName} {cc : ByteArray} {nL : Nat} {ret : Option FieldType} {rm : Room} {sp : zSp} {hs : List zHd} {ok : zO}
theorem zcalL (hM : zMet (zMu Y) y cc nL ret rm sp) (ix n ci : Nat) {T : u_T} {N : Nat} (hci : zcl[ci]? = some (y.cls, T, N)) (hw : ∀ w ∈ [Cond.methodLink (zMo Y) ix y, Cond.initialized y.cls, Cond.code y cc nL ret, Cond.instanceMethod y, Cond.selects y.cls y y], w ∈ zts)
    (hd : y.cls ≠ "java/lang/invoke/MethodHandle" ∧ y.cls ≠ "java/lang/invoke/VarHandle" ∧ (parseMethodDescriptor y.desc).map (fun d => d.parameters.length) = some n) (hn : n + 1 ≤ nL) (hR : rm.frames + 1 ≤ (zMr Y).frames ∧ 8 + (nL + 11) + rm.locals ≤ (zMr Y).locals) :
    zCalX Y (zKl Y hs) (zQl Y ok) (zAl Y) (zxk Y hs ok) true ix (n + 1) rm.cells rm.slots (zvsP (zMu Y) ci sp) := by
  intro pc hdg ls as r kc ks F ok' hlen hall hwt hkc hks hsp hcont
  intro p l e s m args below meth c D cA ad hC H locs lsl hP hS hl hln _ _
  obtain ⟨hx, hb, hrt, hml, hown, hts, hlocks, hout, hK, hZ, hinj, hfl, hnc⟩ := id hC
  rcases as with _ | ⟨v0, r'⟩
  · exact hsp.elim
  cases v0 with
  | ref j =>
    obtain ⟨hrc, hsp⟩ := hsp
    have cb := zcalB (Y := Y) (cc := cc) (nL := nL) (ret := ret) (rm := rm) ix n hts (fun w h => hw w (List.mem_append_left [Cond.instanceMethod y, Cond.selects y.cls y y] h)) hd hR
    have hr := vx_runV (e := e) (below := below) (locs := locs) (cells := kc) (slots := ks) (As := r'.map (zv ad)) (rest := r.map (zv ad)) (g := F0 m pc lsl ((List.reverse (Value.ref j :: r') ++ r).map (zv ad))) (meth := meth) ⟨hx, hb, hml, hown, hts⟩ (hM l hfl D cA ad F H.size _ ok' (zxk Y hs ok pc) hsp hinj hall (by rw [hlen]; exact hn)) ⟨cb, hts _ (hw _ (by simp)), hts _ (hw _ (by simp))⟩
      ⟨zB.blind, zrc_at hrc hci hK hP, fun U hU hW => ⟨rfl, by rw [hU], by rw [hU]; exact hP, zK.warm hW hK, by rw [hU]; exact ((hZ.kept hS.2.1).moved hW.alike).narrow (zA_at hS)⟩⟩ rfl (by simp at hlen ⊢; exact hlen) hl.1 (by simp [zv]) (lv_room (by rw [zwt_cat]; exact hwt)) hdg ⟨hkc, hks⟩
    have hf := zA_at (U := zMu Y) (ad := ad) hS
    intro T hT X
    rcases hr T hT X with ⟨v, st₀, t, T', L, h0, X', hL, e1, e2, ⟨⟨q, F', hv, hok, hP'⟩, hF⟩, st⟩ | ⟨q9, st₀, t, T', L, E, ce, h0, X', hL, e1, e2, ⟨⟨F', hex, hP'⟩, hF⟩, hce, hcv, hcl, st⟩
    · obtain ⟨k1, k2, k3⟩ := vx_keep h0 e1 hS (fun q _ h => hf q h) hf hL hF
      cases hv
      obtain ⟨t2, a1, b1⟩ := hcont q F' hok p l e s m args below meth c D cA ad hC T'.heap (locs ++ L) lsl (by rw [e1]; exact hP') k3 hl hln hkc hks T' rfl X'
      refine ⟨t2, st t2 ?_, b1⟩
      cases q with
      | none => exact a1
      | some v => exact a1
    · obtain ⟨k1, k2, k3⟩ := vx_keep h0 e1 hS (fun q _ h => hf q h) hf hL hF
      obtain ⟨t2, a1, b1⟩ := zcatchL (lsl := lsl) (ls := ls) (rest := r.map (zv ad)) hex hC (by rw [e1]; exact hP') k3 hl hkc hks (by rw [e1]; exact hce) hcv hcl T' rfl X'
      exact ⟨t2, st.trans a1, b1⟩
  | _ => exact hsp.elim
end ZCalL
/-- the contract of a wrapper -/
def zMetL (U : zU) (y : MethodName) (cc : ByteArray) (nL : Nat) (rm : Room) (hs : List zHd) (sp : List Value → zF → zO → Prop) : Prop :=
  ∀ (l : Launch), l.flags = flags0 → ∀ (D : va_G) (cA : zT) (ad : Nat → Nat) (F : zF) (sz : Nat) (av : List Value) (ok : zO), sp av F ok → zinj U ad → av.all zsm = true → av.length ≤ nL →
    vx_Met l y (Cond.codeWith y cc nL (some .int) (hs.map Prod.fst) :: zts) rm (va_Pc (av.map (zv ad)) (fun S => zB D cA U ad F sz S ∧ zNc S)) (zQ D cA U ad ok (zA U ad sz)) (zQx D cA U ad zX0 (zA U ad sz)) rm.cells rm.slots (zA U ad sz)
theorem zmetL {Y : zM} {y : MethodName} {hs : List zHd} {sp : List Value → zF → zO → Prop} (hown : y.cls = zMo Y) (hy : plainName y.cls = true)
    (h : ∀ av F ok, sp av F ok → zXW Y (zKl Y hs) (zQl Y ok) (zAl Y) 0 (zini (zMl Y) av) [] 0 0 F) : zMetL (zMu Y) y (zMc Y) (zMl Y) (zMr Y) hs sp := by
  intro l hfl D cA ad F sz av ok hsp hinj hall hlen
  refine vx_ofWH (cc := zMc Y) (maxL := zMl Y) (ret := some .int) (hh := hs.map Prod.fst) hy rfl ?_
  intro p e s m args below meth c s₁ B hml hv
  obtain ⟨rfl, ⟨hsz, hP, hK, hZ⟩, hnc⟩ := hv
  subst hsz
  have hts0 := atoms_spec (ws := Cond.codeWith y (zMc Y) (zMl Y) (some .int) (hs.map Prod.fst) :: zts) B.pre
  have hent := lv_entry (av.map (zv ad)) (n := zMl Y) (by rw [zsl_len ad av hall]; exact hlen)
  rw [lg_entry_eq]
  have hl : lv_has _ (zMl Y) (zll ad 0 (zini (zMl Y) av)) := ⟨hent.1, hent.2.1, fun q hq => hent.2.2 q (zini_args ad _ av hall 0 q hq)⟩
  exact h av F ok hsp p l e s m _ below meth c D cA ad ⟨B.exec, B.bytes, B.returns, hml, by rw [← hown]; exact findClass_of_methodNamed B.named, fun w hw => hts0 w (List.mem_cons_of_mem _ hw), B.notSynchronized, vx_table (x := y) B (hts0 _ List.mem_cons_self), hK, hZ, hinj, hfl, hnc⟩
    s.heap [] _ hP va_S.rf hl (by rw [zini_len]; exact Nat.le_refl _) (Nat.zero_le _) (Nat.zero_le _)
end ZFb
