/-! CONSTRUCTORS: Changes, its loop -/
section ZGi
set_option maxRecDepth 40000
def uN2 : zU := (362, fun k => match Nat.beq k 0 with
  | true => (0, 2, [some 1, none, none])
  | false => match Nat.beq k 1 with
    | true => (3, 8, [some 2, some 47, some 92, some 137, some 182, some 227, some 272, some 317])
    | false => zren (fun i => 2 + 45 * ((k - 2) / 45) + i) (uN1.2 ((k - 2) % 45)))
def gN2 : zF := fun c i => if c < 2 then 0 else gN1 ((c - 2) % 45) i
def rX2_init : Room := { frames := 4, cells := 361, slots := 2008, locals := 73 }
abbrev YN2 : zM := (RX2, cX2_init, 2, none, rX2_init, uN2, fun _ => none, fun _ _ => none)
abbrev zQ2 (below : List Frame) (D : va_G) (cA : zT) (h0 : Nat) (args : Array Value) (s : State) : State → Prop := MQ below (va_Qv (fun ad : Nat → Nat => ad 0 = h0 ∧ zinj uN2 ad ∧ ∀ k, k < uN2.1 → k ≠ 0 → s.heap.size ≤ ad k) (fun ad t => va_P D zcl (zWs cA uN2 ad gN2) t.heap) (zAn h0 s.heap.size)) args s rX2_init.cells rX2_init.slots (zAn h0 s.heap.size)
def zCh (pc i : Nat) : Prop := ∀ (p : Program) (l : Launch) (e : Env) (s : State) (m : MethodId) (args : Array Value) (below : List Frame) (meth : Method) (c : Code) (D : va_G) (cA : zT) (h0 : Nat), zCn YN2 p l s m args meth c D cA h0 →
  ∀ (qa : Nat) (A : Nat → Nat → Nat) (H : Heap) (locs : List Loc) (lsl : Array Slot), va_P D zcl (zcW cA h0 qa A i) H → va_D (zAn h0 s.heap.size) (zcW cA h0 qa A i) → va_S (zAn h0 s.heap.size) s.heap H locs → lv_has lsl 2 [(0, .ref h0), (1, .int (nI i))] →
    W p l e rX2_init s m args below meth c H locs (1 + 45 * i) (8 + 250 * i) (zQ2 below D cA h0 args s) (F0 m pc lsl [])
set_option maxHeartbeats 4000000 in
theorem zChS {i : Nat} (hi : i < 8) (h : zCh 25 (i + 1)) : zCh 25 i := by
  intro p l e s m args below meth c D cA h0 hC qa A H locs lsl hP hD hS hl
  obtain ⟨hx, hb, hr, hml, hown, hts, hlocks, hin, hK, hfl, hlt, hao⟩ := id hC
  have hb : c.code = cX2_init := hb
  have hA : ∀ q : Nat, s.heap.size ≤ q → zAn h0 s.heap.size q := fun q h => Or.inr h
  obtain ⟨hw9, ty0, hty0, hnm0⟩ := zcl_ok _ (List.mem_of_getElem? (i := 2) rfl)
  have hw7 := hts (Cond.fieldLink RX2 11 RX2 "kept" "[LLockMaster$Canal;") (zmem 313 (by decide +kernel) (by decide +kernel))
  refine lv_iload_n (k := 1) hx hb (by decide +kernel) rfl (lv_at hl 1 rfl) ?_
  refine lv_aload_n (k := 0) hx hb (by decide +kernel) rfl (lv_at hl 0 rfl) ?_
  refine va_get (ci := 2) (v := .ref qa) (C := RX2) (T := TX2) (N := 3) (ref := RX2) hx hb hts hw9 hown hK.1 hP 0 rfl rfl 0 (by decide) hw7 (fun _ h9 => h9) rfl (by decide +kernel) ?_
  refine va_alen (v := nI 8) hx hb hK.1 hP 1 2 rfl rfl rfl (by decide +kernel) ?_
  refine lv_icmp_ge (off := 22) (tgt := 53) hx hb (by decide +kernel) (by decide) (fun h9 => absurd h9 (Int32.not_le.mpr (nI_lt hi (by decide)))) (fun _ => ?_)
  refine lv_aload_n (k := 0) hx hb (by decide +kernel) rfl (lv_at hl 0 rfl) ?_
  refine va_get (ci := 2) (v := .ref qa) (C := RX2) (T := TX2) (N := 3) (ref := RX2) hx hb hts hw9 hown hK.1 hP 0 rfl rfl 0 (by decide) hw7 (fun _ h9 => h9) rfl (by decide +kernel) ?_
  refine lv_iload_n (k := 1) hx hb (by decide +kernel) rfl (lv_at hl 1 rfl) ?_
  have w1 := hts (Cond.classLink RX2 9 RX1) (zmem 310 (by decide +kernel) (by decide +kernel))
  have w2 := hts (Cond.instantiable RX1 11) (zmem 91 (by decide +kernel) (by decide +kernel))
  have w3 : Cond.initialized RX1 ∈ zts := zmem 60 (by decide +kernel) (by decide +kernel)
  have w4 : Cond.methodLinkNest RX2 24 yX1_init "LockMaster" ∈ znw := List.mem_filter.mpr ⟨List.mem_of_getElem? (i := 312) (by decide +kernel), rfl⟩
  have w5 := hts (Cond.instanceMethod yX1_init) (zmem 93 (by decide +kernel) (by decide +kernel))
  have w6 : Cond.code yX1_init cX1_init 1 none ∈ zts := zmem 94 (by decide +kernel) (by decide +kernel)
  refine va_new (C := RX1) (T := TX1) (N := 11) (ci := 1) hx hb hts (zcl_ok _ (List.mem_of_getElem? (i := 1) rfl)).1 tyX1 tyX1_ok hown w1 w2 (hts _ w3) hK.1 hP hD hS hA rfl dN1 (by show 1 + 45 * i + 1 ≤ 361; omega) (by show 8 + 250 * i + 11 ≤ 2008; omega) (by decide +kernel) (fun q H1 hP1 hD1 hS1 => ?_)
  have hq : (zcW cA h0 qa A i ++ [(q, .inr (1, fN1))])[(zcW cA h0 qa A i).length]? = some (q, .inr (1, fN1)) := by rw [List.getElem?_append_right (Nat.le_refl _), Nat.sub_self]; rfl
  have hqA := hD1.2 _ _ hq
  have hqlt : q < H1.size := (hP1 _ _ hq).lt
  refine lv_dup hx hb (by decide +kernel) rfl ?_
  have hpre : PreS s H1 (va_Pc [.ref q] (fun S => S.heap.size = H1.size ∧ va_P D zcl [(q, .inr (1, fN1))] S.heap ∧ zK D cA S ∧ va_AO RX1 S)) [.ref q] := ⟨fun a U9 g mk h => ⟨h.1, h.2.1, h.2.2.1, zK.same (u := U9) rfl h.2.2.2.1, va_AO.moved (U := U9.calling g mk a) (Vm.Alike.refl U9.vm) h.2.2.2.2⟩, fun U9 hU hW => ⟨rfl, by rw [hU], by rw [hU]; exact va_P_last hP1, zK.warm hW hK, va_AO.moved hW.alike hao⟩⟩
  have cn : va_CN rX2_init s args RX2 24 yX1_init "LockMaster" cX1_init 1 none (Cond.code yX1_init cX1_init 1 none :: zts) rX1_init rX1_init.cells rX1_init.slots 0 := va_cnB (Ts := zts) (ws' := zts) 0 hts (fun w h => by
    have hz : w ∈ zts := by
      rcases List.mem_cons.mp h with rfl | h
      · exact w6
      · exact h
    exact ⟨hz, good_of_word (zts_good hz)⟩) rfl rfl rfl (hK.2.1 _ w4) (hts _ w3) ⟨by decide +kernel, by decide +kernel, by decide +kernel⟩ ⟨Nat.le_of_ble_eq_true rfl, Nat.le_of_ble_eq_true rfl⟩
  have hrun := va_runIN (e := e) (below := below) (meth := meth) (locs := locs) (cells := 1 + 45 * i + 1) (slots := 8 + 250 * i + 11) (As := []) (rest := [.ref q, .int (nI i), .ref qa]) (g := F0 m 43 lsl [.ref q, .ref q, .int (nI i), .ref qa]) ⟨hx, hb, hml, hown, hts⟩ (nX1 l hfl D cA q H1.size hqlt) ⟨cn, rfl, w5⟩ hpre rfl rfl hl.1 rfl (lv_room (Nat.le_of_ble_eq_true rfl)) (show decode cX2_init 43 = .ok (.invokespecial 24, 3) by decide +kernel) ⟨by show 1 + 45 * i + 1 + 44 ≤ 361; omega, by show 8 + 250 * i + 11 + 239 ≤ 2008; omega⟩
  have hf : ∀ z, zAn q H1.size z → zAn h0 s.heap.size z := fun z h => by
    rcases h with rfl | h
    · exact hqA
    · exact Or.inr (Nat.le_trans hS1.1 h)
  refine va_callv hrun hS1 (fun z _ h => hf z h) hf (fun ad t H2 locs2 ht halike hpost hB hsz hk9 hS2 => ?_)
  obtain ⟨p1, p2, p3⟩ := hpost
  have hB : va_P D zcl (zWs cA uN1 ad gN1) H2 := by rw [← ht]; exact hB
  obtain ⟨hP2, hD2⟩ := zjoin hP1 hD1 hk9 p1 p2 p3 hB (fun z h => Or.inr (Nat.le_trans hS1.1 h))
  have hroot : (zcW cA h0 qa A i ++ zWs cA uN1 ad gN1)[(zcW cA h0 qa A i).length]? = some (q, zE cA ad (uN1.2 0) (gN1 0)) := by
    rw [List.getElem?_append_right (Nat.le_refl _), Nat.sub_self, zWs_at cA uN1 ad gN1 (show 0 < uN1.1 by decide), p1]
  refine va_astq (cA := cA.2.2.1) (n := 8) (r := (RX1, TX1, 11)) hx hb hK.1 hP2 hD2 hS2 1 2 _ 1 rfl rfl hroot rfl (vp_in_nI hi (by decide)) (by decide +kernel) (fun H3 locs3 hP3 hD3 hS3 => ?_)
  rw [nI_clamp (by omega), ← p1, ← zcW_s] at hP3 hD3
  refine lv_iinc (v := nI (i + 1)) (lv' := [(1, .int (nI (i + 1))), (0, .ref h0)]) hx hb (show decode cX2_init 47 = .ok (.iinc 1 1, 3) by decide +kernel) hl (k := 1) rfl (show nI i + Int32.ofInt 1 = nI (i + 1) from nI_1 i) (by decide) rfl (fun ls hl => ?_)
  refine lv_goto (off := -25) (tgt := 25) hx hb (by decide +kernel) (by decide) ?_
  have g := h p l e s m args below meth c D cA h0 hC qa _ H3 locs3 ls hP3 hD3 hS3 (lv_sub hl [1, 0] rfl)
  rw [show 1 + 45 * (i + 1) = 1 + 45 * i + 1 + 44 by omega, show 8 + 250 * (i + 1) = 8 + 250 * i + 11 + 239 by omega] at g
  exact g
end ZGi
