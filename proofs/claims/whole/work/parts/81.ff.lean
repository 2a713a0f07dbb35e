-- ===== end of PART A; then your names; then what follows =====
/-! THE CLAIM OUT OF ONE WALK OF THE LAW'S BODY. Your part is whole_start (and what it stands on); all else here is the same for every law, but numbers. -/
def R_law : String := "LockMasterLaw"
def lw_P (b : Addr) (xs : List Int32) (args : Array Value) (s : State) : Prop := args = #[.ref b] ∧ s.IntsAt b xs ∧ xs.length ≤ 3072 ∧ (Jvm.Cond.and given_1 narrow_1).before args s = true
/-- what a walk over the start with the record d0 says of its end, said of the start itself -/
theorem lw_closed {s t : State} {o : Outcome} {d0 : Drawn} {L : List Loc} {k n : Nat} (hd0 : s.drawn.sameBut d0 lw_cs) (hv : ∃ v, o = .returned v) (hW : (s.setDrawn d0).WarmedH t.vm) (hs : (s.setDrawn d0).sameButNew ({ t with vm := s.vm } : State) L k n) : State.butDraws s t lw_cs (fun t1 => Framed s o t1 L k n) := by
  have h2 : t.drawn = d0 := congrArg State.drawn hs.1
  refine ⟨⟨hv, hW, State.sameButNew.setDrawn hs s.drawn⟩, ?_, by decide⟩
  rw [h2]
  exact hd0
def lw_Q (_ : Array Value) (s : State) (o : Outcome) (t : State) : Prop := o = .returned (some (.int 1)) ∧ State.butDraws s t lw_cs (fun t1 => Framed s o t1 [] 603072 7198825)
def lw_Z (below : List Frame) (a : Array Value) (s : State) : State → Prop := fun t => ∃ o, t.status = .running ∧ Ended t below o ∧ lw_Q a s o t
/-- the law's own end, with 1 on the stack, nothing written that was there before, its room as the claim has it; d0: the record of draws at this point (at the entry s.drawn: begin with 'refine W.base ?_' and 'have hd0 := Drawn.sameBut.refl s.drawn lw_cs') -/
theorem lw_ret {p : Program} {l : Launch} {e : Env} {s : State} {m : MethodId} {below : List Frame} {meth : Method} {c : Code} {b : Nat} {d0 : Drawn} (hd0 : s.drawn.sameBut d0 lw_cs) (hx : p.tables.exec = Jvm.exec) (hb : c.code = code) (hr : meth.sig.returnType = ret) (hlocks : meth.locks = false) {pc : Nat} {H : Heap} {ls : Array Slot} (hdg : decode code pc = .ok (.ireturn, 1)) : W p l e room_1 (s.setDrawn d0) m #[Value.ref b] below meth c H [] 603072 7198825 (lw_Z below #[Value.ref b] s) (F0 m pc ls [.int 1]) := by
  intro T hT X
  obtain ⟨fs, hret, hrun, hended, hW, hframe⟩ := X.leave (v := some (.int 1)) (hlocks := hlocks) (fun h => by rw [hr] at h; cases h)
  have hmeth' : T.vm.method? m = some meth := X.method'
  refine ⟨T.setFrames fs, ?_, .returned (some (.int 1)), hrun, hended, rfl, lw_closed hd0 ⟨_, rfl⟩ hW hframe⟩
  jvm_step X.here [X.here.top, hx, hb, hdg, hmeth', hr, ret, narrow_b1]
  (try refine ⟨rfl, ?_⟩); (try refine ⟨rfl, ?_⟩)
  first | (intro acts; rw [hret _ acts rfl rfl rfl]) | rw [hret _ _ rfl rfl rfl]
  exact Steps.refl _
/-- what holds at the law's entry: the machine, the code, the tables' words (any of lw_tbl by 'hts w (by decide +kernel)'), the script of L ints xs at the cell b, what the Statement gives of the start (any of its parts by flat_of_before) -/
def lw_At (p : Program) (s : State) (m : MethodId) (meth : Method) (c : Code) (b L : Nat) (xs : Nat → Int32) : Prop :=
  p.tables.exec = Jvm.exec ∧ c.code = code ∧ meth.sig.returnType = ret ∧ c.maxLocals = 9 ∧ s.vm.findClass R_law = some m.cls ∧ (∀ w ∈ lw_tbl, w.before #[Value.ref b] s = true) ∧ va_X b L xs s s.heap ∧ b < s.heap.size ∧ meth.locks = false ∧ (Jvm.Cond.and given_1 narrow_1).before #[Value.ref b] s = true
/-! the law's body: its context, its calls -/
section ZFf
set_option maxRecDepth 20000
def zKw (L : Nat) (xs : Nat → Int32) : zKt := fun p l _ s m args _ meth c D cA ad => lw_At p s m meth c (ad 521) L xs ∧ args = #[.ref (ad 521)] ∧ l.flags = flags0 ∧ zK D cA s ∧ zZ (fun q => s.heap.size ≤ q) s s.heap ∧ zinj UL ad ∧ (∀ k, k < 521 → s.heap.size ≤ ad k) ∧ zNc s
def zAw : zAt := fun s _ q => s.heap.size ≤ q
def zQw : zQt := fun _ _ s _ args below _ _ _ => lw_Z below args s
/-- the law as a method of the second engine -/
def zLaw (Y : zM) : Prop := zMo Y = R_law ∧ zMc Y = code ∧ zMl Y = 9 ∧ zMr Y = room_1 ∧ zMu Y = UL
theorem zKw_ok {Y : zM} (hY : zLaw Y) (L : Nat) (xs : Nat → Int32) : zKok Y (zKw L xs) zAw := by
  obtain ⟨y1, y2, y3, y4, y5⟩ := hY
  intro p l e s m args below meth c D cA ad hC
  obtain ⟨⟨hx, hb, hr, hml, hown, hts, hX, hbl, hlocks, hgv⟩, ha, hfl, hK, hZ, hinj, hap, hnc⟩ := hC
  rw [y1, y2, y3, y5]
  exact ⟨⟨hx, hb, hml, hown, fun w hw => by rw [ha]; exact hts w (List.mem_filter.mp hw).1, hK, hZ, hinj, hfl⟩, fun q h => h, hap⟩
theorem zretW {Y : zM} (hY : zLaw Y) (L : Nat) (xs : Nat → Int32) (pc : Nat) (hd : decode (zMc Y) pc = .ok (.ireturn, 1)) (ls : zL) (x : Int32) (kc ks : Nat) (F : zF) (h : x = 1) : zXW Y (zKw L xs) zQw zAw pc ls [.int x] kc ks F := by
  obtain ⟨y1, y2, y3, y4, y5⟩ := hY
  subst h
  rw [y2] at hd
  intro p l e s m args below meth c D cA ad hC H locs lsl hP hS hl hln hkc hks
  obtain ⟨⟨hx, hb, hr, hml, hown, hts, hX, hbl, hlocks, hgv⟩, ha, hfl, hK, hZ, hinj, hap, hnc⟩ := hC
  subst ha
  rw [y4] at hkc hks ⊢
  refine va_forget (fun q hq => hS.2.2 q hq) ?_
  refine W.widen (k := 603072) (n := 7198825) hkc hks ?_
  refine W.base ?_
  exact lw_ret (Drawn.sameBut.refl s.drawn lw_cs) hx hb hr hlocks hd
section ZCalW
variable {Y : zM} {L : Nat} {xs : Nat → Int32} {y : MethodName} {cc : ByteArray} {nL : Nat} {ret : Option FieldType} {rm : Room} {sp : zSp}
theorem zA_w {ad : Nat → Nat} {H0 H : Heap} {locs : List Loc} (hap : ∀ k, k < 521 → H0.size ≤ ad k) (hS : va_S (fun q => H0.size ≤ q) H0 H locs) : ∀ q, zA UL ad H.size q → H0.size ≤ q := fun q h => h.elim (fun ⟨k, hk, e⟩ => by rw [e]; exact hap k hk) fun h => Nat.le_trans hS.1 h
theorem zcalW (hY : zLaw Y) (hM : zMet UL y cc nL ret rm sp) (ix n ci : Nat) {T : u_T} {N : Nat} (hci : zcl[ci]? = some (y.cls, T, N)) (hw : ∀ w ∈ [Cond.methodLink RL ix y, Cond.initialized y.cls, Cond.code y cc nL ret, Cond.instanceMethod y, Cond.selects y.cls y y], w ∈ zts)
    (hd : y.cls ≠ "java/lang/invoke/MethodHandle" ∧ y.cls ≠ "java/lang/invoke/VarHandle" ∧ (parseMethodDescriptor y.desc).map (fun d => d.parameters.length) = some n) (hn : n + 1 ≤ nL) (hR : rm.frames + 1 ≤ 19 ∧ 8 + (nL + 11) + rm.locals ≤ 10796) :
    zCalX Y (zKw L xs) zQw zAw (fun _ => zX0) true ix (n + 1) rm.cells rm.slots (zvsP UL ci sp) := by
  intro pc hdg ls as r kc ks F ok' hlen hall hwt hkc hks hsp hcont
  have hKo := zKw_ok hY L xs
  obtain ⟨y1, y2, y3, y4, y5⟩ := id hY
  intro p l e s m args below meth c D cA ad hC H locs lsl hP hS hl hln _ _
  obtain ⟨⟨hx, hb, hml, hown, hts, hK, hZ, hinj, hfl⟩, -, -⟩ := hKo p l e s m args below meth c D cA ad hC
  have hap := hC.2.2.2.2.2.2.1
  rcases as with _ | ⟨v0, r'⟩
  · exact hsp.elim
  cases v0 with
  | ref j =>
    obtain ⟨hrc, hsp⟩ := hsp
    rw [y5] at hP hinj
    have cb := zcalB (Y := Y) (cc := cc) (nL := nL) (ret := ret) (rm := rm) ix n hts (fun w h => hw w (by rw [y1] at h; exact List.mem_append_left [Cond.instanceMethod y, Cond.selects y.cls y y] h)) hd (by rw [y4]; exact hR)
    have hf := zA_w (ad := ad) hap hS
    have hr := vx_runV (e := e) (below := below) (locs := locs) (cells := kc) (slots := ks) (As := r'.map (zv ad)) (rest := r.map (zv ad)) (g := F0 m pc lsl ((List.reverse (Value.ref j :: r') ++ r).map (zv ad))) (meth := meth) ⟨hx, hb, hml, hown, hts⟩ (hM l hfl D cA ad F H.size _ ok' zX0 hsp hinj hall (by rw [hlen]; exact hn)) ⟨cb, hts _ (hw _ (by simp)), hts _ (hw _ (by simp))⟩
      ⟨zB.blind, zrc_at hrc hci hK hP, fun U hU hW => ⟨rfl, by rw [hU], by rw [hU]; exact hP, zK.warm hW hK, by rw [hU]; exact ((hZ.kept hS.2.1).moved hW.alike).narrow hf⟩⟩ rfl (by simp at hlen ⊢; exact hlen) hl.1 (by simp [zv]) (lv_room (by rw [zwt_cat]; exact hwt)) hdg ⟨hkc, hks⟩
    intro T hT X
    rcases hr T hT X with ⟨v, st₀, t, T', L9, h0, X', hL, e1, e2, ⟨⟨q, F', hv, hok, hP'⟩, hF⟩, st⟩ | ⟨q9, st₀, t, T', L9, E, ce, h0, X', hL, e1, e2, ⟨⟨F', hex, hP'⟩, hF⟩, hce, hcv, hcl, st⟩
    · obtain ⟨k1, k2, k3⟩ := vx_keep h0 e1 hS (fun q _ h => hf q h) hf hL hF
      cases hv
      obtain ⟨t2, a1, b1⟩ := hcont q F' hok p l e s m args below meth c D cA ad hC T'.heap (locs ++ L9) lsl (by rw [e1, y5]; exact hP') k3 hl hln hkc hks T' rfl X'
      refine ⟨t2, st t2 ?_, b1⟩
      cases q with
      | none => exact a1
      | some v => exact a1
    · exact hex.elim
  | _ => exact hsp.elim
theorem zcalT {hs : List zHd} {sp : List Value → zF → zO → Prop} (hY : zLaw Y) (hM : zMetL UL y cc nL rm hs sp) (ix n : Nat) (hw : ∀ w ∈ [Cond.methodLink RL ix y, Cond.static y, Cond.initialized y.cls, Cond.codeWith y cc nL (some .int) (hs.map Prod.fst)], w ∈ zts)
    (hd : y.cls ≠ "java/lang/invoke/MethodHandle" ∧ y.cls ≠ "java/lang/invoke/VarHandle" ∧ (parseMethodDescriptor y.desc).map (fun d => d.parameters.length) = some n) (hn : n ≤ nL) (hR : rm.frames + 1 ≤ 19 ∧ 8 + (nL + 11) + rm.locals ≤ 10796) :
    zCalX Y (zKw L xs) zQw zAw (fun _ => zX0) false ix n rm.cells rm.slots (fun as F ok _ => sp as F ok) := by
  intro pc hdg ls as r kc ks F ok' hlen hall hwt hkc hks hsp hcont
  have hKo := zKw_ok hY L xs
  obtain ⟨y1, y2, y3, y4, y5⟩ := id hY
  intro p l e s m args below meth c D cA ad hC H locs lsl hP hS hl hln _ _
  obtain ⟨⟨hx, hb, hml, hown, hts, hK, hZ, hinj, hfl⟩, -, -⟩ := hKo p l e s m args below meth c D cA ad hC
  have hap := hC.2.2.2.2.2.2.1
  have hnc := hC.2.2.2.2.2.2.2
  rw [y5] at hP hinj
  have hf := zA_w (ad := ad) hap hS
  have cw : vx_CSW (zMr Y) s args (zMo Y) ix y cc nL (some .int) (hs.map Prod.fst) (Cond.codeWith y cc nL (some .int) (hs.map Prod.fst) :: zts) rm rm.cells rm.slots n := by
    refine vx_cwSW (Ts := zts) (ws' := zts) n hts (fun w h => ?_) rfl rfl rfl hd (by rw [y4]; exact hR)
    have hz : w ∈ zts := by
      rw [y1] at h
      unfold va_wsS at h
      rcases List.mem_append.mp h with h | h
      · exact hw w (List.mem_append_left [Cond.codeWith y cc nL (some .int) (hs.map Prod.fst)] h)
      · rcases List.mem_cons.mp h with rfl | h
        · exact hw _ (by simp)
        · exact h
    exact ⟨hz, good_of_word (zts_good hz)⟩
  have hr := vx_runSX (e := e) (below := below) (locs := locs) (cells := kc) (slots := ks) (As := as.map (zv ad)) (rest := r.map (zv ad)) (g := F0 m pc lsl ((List.reverse as ++ r).map (zv ad))) (meth := meth) ⟨hx, hb, hml, hown, hts⟩ (hM l hfl D cA ad F H.size _ ok' hsp hinj hall (by rw [hlen]; exact hn)) cw
    ⟨fun a S g mk h => ⟨(zB.blind (av := as.map (zv ad)) a S g mk ⟨h.1, h.2.1⟩).1, (zB.blind (av := as.map (zv ad)) a S g mk ⟨h.1, h.2.1⟩).2, zNc.moved (Vm.Alike.refl S.vm) h.2.2⟩, fun U hU hW => ⟨rfl, ⟨by rw [hU], by rw [hU]; exact hP, zK.warm hW hK, by rw [hU]; exact ((hZ.kept hS.2.1).moved hW.alike).narrow hf⟩, zNc.moved hW.alike hnc⟩⟩ rfl (by simp [hlen]) hl.1 (by simp) (lv_room (by rw [zwt_cat]; exact hwt)) hdg ⟨hkc, hks⟩
  intro T hT X
  rcases hr T hT X with ⟨v, st₀, t, T', L9, h0, X', hL, e1, e2, ⟨⟨q, F', hv, hok, hP'⟩, hF⟩, st⟩ | ⟨q9, st₀, t, T', L9, E, ce, h0, X', hL, e1, e2, ⟨⟨F', hex, hP'⟩, hF⟩, hce, hcv, hcl, st⟩
  · obtain ⟨k1, k2, k3⟩ := vx_keep h0 e1 hS (fun q _ h => hf q h) hf hL hF
    cases hv
    obtain ⟨t2, a1, b1⟩ := hcont q F' hok p l e s m args below meth c D cA ad hC T'.heap (locs ++ L9) lsl (by rw [e1, y5]; exact hP') k3 hl hln hkc hks T' rfl X'
    refine ⟨t2, st t2 ?_, b1⟩
    cases q with
    | none => exact a1
    | some v => exact a1
  · exact hex.elim
end ZCalW
end ZFf
