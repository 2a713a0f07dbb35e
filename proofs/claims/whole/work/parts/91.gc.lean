/-! CONSTRUCTORS: a place is given a new object -/
section ZGc
set_option maxRecDepth 20000
/-- what is pushed behind dup: nothing, or one number -/
def zPu (cc : ByteArray) (pc cl : Nat) (av : List Value) : Prop := (av = [] ∧ cl = 0) ∨ (∃ n v, av = [.int v] ∧ cl = 1 ∧ decode cc pc = .ok (.iconst n, 1) ∧ Int32.ofInt n = v) ∨ ∃ n v, av = [.int v] ∧ cl = 2 ∧ decode cc pc = .ok (.bipush n, 2) ∧ (Int8.ofInt n).toInt32 = v
set_option maxHeartbeats 4000000 in
theorem zNstep {Y : zM} {ci : Nat} {U : zU} {G0 : zF} {pc kc ks : Nat} {fs : List Value} {bl : List zBl} {T : u_T} {N : Nat} (hci : zcl[ci]? = some (zMo Y, T, N)) (hfs : fs.length = N)
    {Ub : zU} {yb : MethodName} {ccb : ByteArray} {nLb : Nat} {rmb : Room} {cib : Nat} {fsb av : List Value} {Gb : zF} (hN : zNew Ub yb ccb nLb rmb cib fsb av Gb) {Tb : u_T} {Nb : Nat} (hcb : zcl[cib]? = some (yb.cls, Tb, Nb))
    (tyb : Nat → FieldType) (htyb : ∀ k, k < Nb → parseFieldDescriptor (Tb k).2.2.1 = some (tyb k)) (hdef : ∀ j, j < Nb → defaultValue (tyb j) = vp_V fsb j) {ix ic ip k cl : Nat} (hname : yb.name = "<init>")
    (d0 : decode (zMc Y) pc = .ok (.aload_n 0, 1)) (d1 : decode (zMc Y) (pc + 1) = .ok (.new ix, 3)) (d4 : decode (zMc Y) (pc + 4) = .ok (.dup, 1)) (hpu : zPu (zMc Y) (pc + 5) cl av) (dI : decode (zMc Y) (pc + 5 + cl) = .ok (.invokespecial ic, 3)) (dP : decode (zMc Y) (pc + 5 + cl + 3) = .ok (.putfield ip, 3))
    (w1 : Cond.classLink (zMo Y) ix yb.cls ∈ zts) (w2 : Cond.instantiable yb.cls Nb ∈ zts) (w3 : Cond.initialized yb.cls ∈ zts) (w4 : Cond.methodLink (zMo Y) ic yb ∈ zts ∨ ∃ host, Cond.methodLinkNest (zMo Y) ic yb host ∈ znw) (w5 : Cond.instanceMethod yb ∈ zts) (w6 : Cond.code yb ccb nLb none ∈ zts) (w7 : Cond.fieldLink (zMo Y) ip (zMo Y) (T k).2.1 (T k).2.2.1 ∈ zts)
    (hd : yb.cls ≠ "java/lang/invoke/MethodHandle" ∧ yb.cls ≠ "java/lang/invoke/VarHandle" ∧ (parseMethodDescriptor yb.desc).map (fun d => d.parameters.length) = some av.length) (hk : k < N) (hTk : (T k).1 = zMo Y) {ty9 : FieldType} (hty9 : parseFieldDescriptor (T k).2.2.1 = some ty9) (hn9 : ∀ q : Nat, narrow ty9 (.ref q) = .ref q) (hf9 : ∀ q : Nat, fits ty9 (.ref q) = true)
    (hkc : kc + 1 + rmb.cells ≤ (zMr Y).cells) (hks : ks + Nb + rmb.slots ≤ (zMr Y).slots) (hR : rmb.frames + 1 ≤ (zMr Y).frames ∧ 8 + (nLb + 11) + rmb.locals ≤ (zMr Y).locals)
    (hgo : ∀ ad : Nat → Nat, zNW Y ci U G0 (pc + 5 + cl + 3 + 3) (kc + 1 + rmb.cells) (ks + Nb + rmb.slots) (fs.set k (.ref (ad 0))) (bl ++ [(Ub, ad, Gb)])) : zNW Y ci U G0 pc kc ks fs bl := by
  intro p l e s m args below meth c D cA h0 hC H locs lsl hP hD hS hl
  obtain ⟨hx, hb, hr, hml, hown, hts, hlocks, hin, hK, hfl, hlt, hao⟩ := id hC
  have hA : ∀ q : Nat, s.heap.size ≤ q → zAn h0 s.heap.size q := fun q h => Or.inr h
  refine lv_aload_n (k := 0) hx hb d0 rfl (lv_at hl 0 rfl) ?_
  refine va_new (C := yb.cls) (T := Tb) (N := Nb) (ci := cib) hx hb hts (zcl_ok _ (List.mem_of_getElem? hcb)).1 tyb htyb hown (hts _ w1) (hts _ w2) (hts _ w3) hK.1 hP hD hS hA hcb hdef (by omega) (by omega) d1 (fun q H1 hP1 hD1 hS1 => ?_)
  have hq : (((h0, .inr (ci, fs)) :: zBs cA bl : va_W) ++ [(q, .inr (cib, fsb))])[((h0, .inr (ci, fs)) :: zBs cA bl : va_W).length]? = some (q, .inr (cib, fsb)) := by rw [List.getElem?_append_right (Nat.le_refl _), Nat.sub_self]; rfl
  have hqA := hD1.2 _ _ hq
  have hqlt : q < H1.size := (hP1 _ _ hq).lt
  refine lv_dup hx hb d4 rfl ?_
  have hlz : zMl Y = lsl.size := hl.1.symm
  have hmain : W p l e (zMr Y) s m args below meth c H1 locs (kc + 1) (ks + Nb) (MQ below (va_Qv (fun ad : Nat → Nat => ad 0 = h0 ∧ zinj U ad ∧ ∀ k, k < U.1 → k ≠ 0 → s.heap.size ≤ ad k) (fun ad t => va_P D zcl (zWs cA U ad G0) t.heap) (zAn h0 s.heap.size)) args s (zMr Y).cells (zMr Y).slots (zAn h0 s.heap.size)) (F0 m (pc + 5 + cl) lsl (av.reverse ++ [.ref q, .ref q, .ref h0])) := by
    have hpre : PreS s H1 (va_Pc (.ref q :: av) (fun S => S.heap.size = H1.size ∧ va_P D zcl [(q, .inr (cib, fsb))] S.heap ∧ zK D cA S ∧ va_AO RX1 S)) (.ref q :: av) := ⟨fun a U9 g mk h => ⟨h.1, h.2.1, h.2.2.1, zK.same (u := U9) rfl h.2.2.2.1, va_AO.moved (U := U9.calling g mk a) (Vm.Alike.refl U9.vm) h.2.2.2.2⟩, fun U9 hU hW => ⟨rfl, by rw [hU], by rw [hU]; exact va_P_last hP1, zK.warm hW hK, va_AO.moved hW.alike hao⟩⟩
    have hrun : va_Run p l e (zMr Y) s m args below meth c H1 locs (kc + 1) (ks + Nb) rmb.cells rmb.slots (F0 m (pc + 5 + cl) lsl (av.reverse ++ [.ref q, .ref q, .ref h0])) [.ref q, .ref h0] (va_Qv (fun ad : Nat → Nat => ad 0 = q ∧ zinj Ub ad ∧ ∀ k, k < Ub.1 → k ≠ 0 → H1.size ≤ ad k) (fun ad t => va_P D zcl (zWs cA Ub ad Gb) t.heap) (zAn q H1.size) (Value.ref q :: av).toArray) (zAn q H1.size) := by
      rcases w4 with w4 | ⟨host, w4⟩
      · have cb := zcalB (Y := Y) (y := yb) (cc := ccb) (nL := nLb) (ret := none) (rm := rmb) ic av.length hts (fun w h => by
          simp only [List.mem_cons, List.not_mem_nil, or_false] at h
          rcases h with rfl | rfl | rfl
          · exact w4
          · exact w3
          · exact w6) hd hR
        exact va_runI (e := e) (below := below) (meth := meth) (locs := locs) (cells := kc + 1) (slots := ks + Nb) (As := av) (rest := [.ref q, .ref h0]) (g := F0 m (pc + 5 + cl) lsl (av.reverse ++ [.ref q, .ref q, .ref h0])) ⟨hx, hb, hml, hown, hts⟩ (hN l hfl D cA q H1.size hqlt) ⟨cb, hname, hts _ w5⟩ hpre rfl rfl hl.1 (by simp) (lv_room (Nat.le_of_ble_eq_true rfl)) dI ⟨hkc, hks⟩
      · have cn : va_CN (zMr Y) s args (zMo Y) ic yb host ccb nLb none (Cond.code yb ccb nLb none :: zts) rmb rmb.cells rmb.slots av.length := va_cnB (Ts := zts) (ws' := zts) av.length hts (fun w h => by
          have hz : w ∈ zts := by
            rcases List.mem_cons.mp h with rfl | h
            · exact w6
            · exact h
          exact ⟨hz, good_of_word (zts_good hz)⟩) rfl rfl rfl (hK.2.1 _ w4) (hts _ w3) hd hR
        exact va_runIN (e := e) (below := below) (meth := meth) (locs := locs) (cells := kc + 1) (slots := ks + Nb) (As := av) (rest := [.ref q, .ref h0]) (g := F0 m (pc + 5 + cl) lsl (av.reverse ++ [.ref q, .ref q, .ref h0])) ⟨hx, hb, hml, hown, hts⟩ (hN l hfl D cA q H1.size hqlt) ⟨cn, hname, hts _ w5⟩ hpre rfl rfl hl.1 (by simp) (lv_room (Nat.le_of_ble_eq_true rfl)) dI ⟨hkc, hks⟩
    have hf : ∀ z, zAn q H1.size z → zAn h0 s.heap.size z := fun z h => by
      rcases h with rfl | h
      · exact hqA
      · exact Or.inr (Nat.le_trans hS1.1 h)
    refine va_callv hrun hS1 (fun z _ h => hf z h) hf (fun ad t H2 locs2 ht halike hpost hB hsz hk9 hS2 => ?_)
    obtain ⟨p1, p2, p3⟩ := hpost
    have hB : va_P D zcl (zWs cA Ub ad Gb) H2 := by rw [← ht]; exact hB
    obtain ⟨hP2, hD2⟩ := zjoin hP1 hD1 hk9 p1 p2 p3 hB (fun z h => Or.inr (Nat.le_trans hS1.1 h))
    obtain ⟨hw9, ty0, hty0, hnm0⟩ := zcl_ok _ (List.mem_of_getElem? hci)
    have hfin : ∀ (H3 : Heap) (locs3 : List Loc), va_P D zcl ((((h0, .inr (ci, fs)) :: zBs cA bl : va_W) ++ zWs cA Ub ad Gb).set 0 (h0, .inr (ci, fs.set k (.ref q)))) H3 → va_D (zAn h0 s.heap.size) ((((h0, .inr (ci, fs)) :: zBs cA bl : va_W) ++ zWs cA Ub ad Gb).set 0 (h0, .inr (ci, fs.set k (.ref q)))) → va_S (zAn h0 s.heap.size) s.heap H3 locs3 →
        W p l e (zMr Y) s m args below meth c H3 locs3 (kc + 1 + rmb.cells) (ks + Nb + rmb.slots) (MQ below (va_Qv (fun ad : Nat → Nat => ad 0 = h0 ∧ zinj U ad ∧ ∀ k, k < U.1 → k ≠ 0 → s.heap.size ≤ ad k) (fun ad t => va_P D zcl (zWs cA U ad G0) t.heap) (zAn h0 s.heap.size)) args s (zMr Y).cells (zMr Y).slots (zAn h0 s.heap.size)) (F0 m (pc + 5 + cl + 3 + 3) lsl []) := fun H3 locs3 hP3 hD3 hS3 => by
      refine hgo ad p l e s m args below meth c D cA h0 hC H3 locs3 lsl ?_ ?_ hS3 hl
      · rw [zBs_sn, p1]; exact hP3
      · rw [zBs_sn, p1]; exact hD3
    cases hfb : (T k).2.2.2 with
    | true => exact va_putF (ci := ci) (v := .ref q) (ty := ty9) (C := zMo Y) (T := T) (N := N) (ref := zMo Y) hx hb hts hw9 ty0 hty0 hnm0 hown hK.1 hP2 hD2 hS2 0 rfl hci k hk (hts _ w7) (fun x h9 => by rw [hTk] at h9; exact h9) hfb hin hTk hty9 (hn9 q) (hf9 q) (by rw [hfs]; exact hk) dP hfin
    | false => exact va_put (ci := ci) (v := .ref q) (ty := ty9) (C := zMo Y) (T := T) (N := N) (ref := zMo Y) hx hb hts hw9 ty0 hty0 hnm0 hown hK.1 hP2 hD2 hS2 0 rfl hci k hk (hts _ w7) (fun x h9 => by rw [hTk] at h9; exact h9) hfb hty9 (hn9 q) (hf9 q) (by rw [hfs]; exact hk) dP hfin
  rcases hpu with ⟨rfl, rfl⟩ | ⟨n, v, rfl, rfl, e1, e2⟩ | ⟨n, v, rfl, rfl, e1, e2⟩
  · exact hmain
  · exact lv_iconst hx hb e1 e2 hmain
  · exact lv_bipush hx hb e1 e2 hmain
end ZGc
