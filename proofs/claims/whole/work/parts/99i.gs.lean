/-! THE LAW, from its entry to its loop: the walk -/
section ZGs
set_option maxRecDepth 40000
set_option maxHeartbeats 4000000 in
theorem law_walk {p : Program} {e : Env} {s : State} {m : MethodId} {below : List Frame} {meth : Method} {c : Code} (l : Launch) (hflags : l.flags = flags0) {b L : Nat} {xs : Nat → Int32} (C0 : lw_At p s m meth c b L xs) {D : va_G} {cA : zT} (hK0 : zK D cA s) (hao : va_AO RX1 s)
    (h28 : ∀ kc ks, kc ≤ 600 → ks ≤ 6000 → zW L xs 28 (zLs (nI 0) none none none) [] kc ks eL0) : W p l e room_1 s m #[Value.ref b] below meth c s.heap [] 0 0 (lw_Z below #[Value.ref b] s) (entryFrame m ([Value.ref b] : List Value).toArray 9) := by
  obtain ⟨hx, hb, hr, hml, hown, htl, hX, hbl, hlocks, hgv⟩ := id C0
  have hts : ∀ w ∈ zts, w.before #[Value.ref b] s = true := fun w hw => htl w (List.mem_filter.mp hw).1
  have hK := hK0.1
  have hA : ∀ q : Nat, s.heap.size ≤ q → (fun q : Nat => s.heap.size ≤ q) q := fun _ h => h
  have hS : va_S (fun q : Nat => s.heap.size ≤ q) s.heap s.heap [] := va_S.rf
  have hP : va_P D zcl [] s.heap := fun k q h => by simp at h
  have hD : va_D (fun q : Nat => s.heap.size ≤ q) [] := ⟨fun i j p q h => by simp at h, fun k q h => by simp at h⟩
  have hl := lv_entry ([.ref b]) (n := 9) (Nat.le_of_ble_eq_true rfl)
  rw [lg_entry_eq]
  generalize (lg_sl ([.ref b]) ++ List.replicate (9 - (lg_sl ([.ref b])).length) Slot.unset).toArray = ls at hl ⊢
  have hl : lv_has ls 9 [(0, .ref b)] := hl
  refine va_new (C := RX8) (T := TX8) (N := 8) (ci := 8) (fs := fN8) hx hb hts (zcl_ok _ (List.mem_of_getElem? (i := 8) rfl)).1 tyX8 tyX8_ok hown (hts (.classLink RL 8 RX8) (zmem 82 (by decide +kernel) (by decide +kernel))) (hts (.instantiable RX8 8) (zmem_of (by decide +kernel))) (hts (.initialized RX8) (zmem_of (by decide +kernel))) hK hP hD hS hA rfl dN8 (Nat.le_of_ble_eq_true rfl) (Nat.le_of_ble_eq_true rfl) (show decode code 0 = .ok (.new 8, 3) by decide +kernel) (fun q8 H1 hP1 hD1 hS1 => ?_)
  refine lv_dup hx hb (show decode code 3 = .ok (.dup, 1) by decide +kernel) rfl ?_
  have hq8 : q8 < H1.size := (hP1 0 _ rfl).lt
  have hpre8 : PreS s H1 (va_Pc (.ref q8 :: []) (fun S => S.heap.size = H1.size ∧ va_P D zcl [(q8, .inr (8, fN8))] S.heap ∧ zK D cA S ∧ va_AO RX1 S)) (.ref q8 :: []) := ⟨fun a U9 g mk h => ⟨h.1, h.2.1, h.2.2.1, zK.same (u := U9) rfl h.2.2.2.1, va_AO.moved (U := U9.calling g mk a) (Vm.Alike.refl U9.vm) h.2.2.2.2⟩, fun U9 hU hW => ⟨rfl, by rw [hU], by rw [hU]; exact hP1, zK.warm hW hK0, va_AO.moved hW.alike hao⟩⟩
  have cb8 := zcalB (Y := YL_law) (y := yX8_init) (cc := cX8_init) (nL := 1) (ret := none) (rm := rX8_init) 91 0 hts (fun w h => by
    simp only [List.mem_cons, List.not_mem_nil, or_false] at h
    rcases h with rfl | rfl | rfl
    · exact zmem 84 (by decide +kernel) (by decide +kernel)
    · exact zmem_of (by decide +kernel)
    · exact zmem_of (by decide +kernel)) (by decide +kernel) ⟨by decide +kernel, by decide +kernel⟩
  have hrun8 := va_runI (e := e) (below := below) (meth := meth) (locs := []) (cells := 0 + 1) (slots := 0 + 8) (As := []) (rest := [.ref q8]) (g := F0 m 4 ls [.ref q8, .ref q8]) ⟨hx, hb, hml, hown, hts⟩ (nX8 l hflags D cA q8 H1.size hq8) ⟨cb8, rfl, hts _ (zmem_of (by decide +kernel))⟩ hpre8 rfl rfl hl.1 (by simp) (lv_room (Nat.le_of_ble_eq_true rfl)) (show decode code 4 = .ok (.invokespecial 91, 3) by decide +kernel) ⟨by decide +kernel, by decide +kernel⟩
  have hf8 : ∀ z, zAn q8 H1.size z → s.heap.size ≤ z := fun z h => by
    rcases h with rfl | h
    · exact hD1.2 0 _ rfl
    · exact Nat.le_trans hS1.1 h
  refine va_callv hrun8 hS1 (fun z _ h => hf8 z h) hf8 (fun aC t H2 locs2 ht halike hpost hB hsz hk9 hS2 => ?_)
  obtain ⟨c1, c2, c3⟩ := hpost
  have hB : va_P D zcl (zWs cA uN8 aC gN8) H2 := by rw [← ht]; exact hB
  obtain ⟨hP2, hD2⟩ := zjoin (ws := []) hP1 hD1 hk9 c1 c2 c3 hB (fun z h => Nat.le_trans hS1.1 h)
  have hP2 : va_P D zcl (zWs cA uN8 aC gN8) H2 := hP2
  have hD2 : va_D (fun q : Nat => s.heap.size ≤ q) (zWs cA uN8 aC gN8) := hD2
  clear hP1 hD1 hS1 hB hrun8 hpre8 hk9 hsz
  refine lv_astore_n (k := 1) (i := 1) (nL := 9) (lv' := [(1, .ref q8), (0, .ref b)]) hx hb (show decode code 7 = .ok (.astore_n 1, 1) by decide +kernel) rfl hl (by decide) rfl (fun ls hl => ?_)
  refine va_new (C := RX9) (T := TX9) (N := 19) (ci := 9) (fs := fN9) hx hb hts (zcl_ok _ (List.mem_of_getElem? (i := 9) rfl)).1 tyX9 tyX9_ok hown (hts (.classLink RL 92 RX9) (zmem 1081 (by decide +kernel) (by decide +kernel))) (hts (.instantiable RX9 19) (zmem_of (by decide +kernel))) (hts (.initialized RX9) (zmem_of (by decide +kernel))) hK hP2 hD2 hS2 hA rfl dN9 (Nat.le_of_ble_eq_true rfl) (Nat.le_of_ble_eq_true rfl) (show decode code 8 = .ok (.new 92, 3) by decide +kernel) (fun q9 H3 hP3 hD3 hS3 => ?_)
  refine lv_dup hx hb (show decode code 11 = .ok (.dup, 1) by decide +kernel) rfl ?_
  have hq9n : (zWs cA uN8 aC gN8 ++ [(q9, .inr (9, fN9))] : va_W)[(zWs cA uN8 aC gN8).length]? = some (q9, .inr (9, fN9)) := by rw [List.getElem?_append_right (Nat.le_refl _), Nat.sub_self]; rfl
  have hq9 : q9 < H3.size := (hP3 _ _ hq9n).lt
  have hpre9 : PreS s H3 (va_Pc (.ref q9 :: []) (fun S => S.heap.size = H3.size ∧ va_P D zcl [(q9, .inr (9, fN9))] S.heap ∧ zK D cA S ∧ va_AO RX1 S)) (.ref q9 :: []) := ⟨fun a U9 g mk h => ⟨h.1, h.2.1, h.2.2.1, zK.same (u := U9) rfl h.2.2.2.1, va_AO.moved (U := U9.calling g mk a) (Vm.Alike.refl U9.vm) h.2.2.2.2⟩, fun U9 hU hW => ⟨rfl, by rw [hU], by rw [hU]; exact va_P_last hP3, zK.warm hW hK0, va_AO.moved hW.alike hao⟩⟩
  have cb9 := zcalB (Y := YL_law) (y := yX9_init) (cc := cX9_init) (nL := 1) (ret := none) (rm := rX9_init) 94 0 hts (fun w h => by
    simp only [List.mem_cons, List.not_mem_nil, or_false] at h
    rcases h with rfl | rfl | rfl
    · exact zmem 1083 (by decide +kernel) (by decide +kernel)
    · exact zmem_of (by decide +kernel)
    · exact zmem_of (by decide +kernel)) (by decide +kernel) ⟨by decide +kernel, by decide +kernel⟩
  have hrun9 := va_runI (e := e) (below := below) (meth := meth) (locs := locs2) (cells := 0 + 1 + rX8_init.cells + 1) (slots := 0 + 8 + rX8_init.slots + 19) (As := []) (rest := [.ref q9]) (g := F0 m 12 ls [.ref q9, .ref q9]) ⟨hx, hb, hml, hown, hts⟩ (nX9 l hflags D cA q9 H3.size hq9) ⟨cb9, rfl, hts _ (zmem_of (by decide +kernel))⟩ hpre9 rfl rfl hl.1 (by simp) (lv_room (Nat.le_of_ble_eq_true rfl)) (show decode code 12 = .ok (.invokespecial 94, 3) by decide +kernel) ⟨by decide +kernel, by decide +kernel⟩
  have hf9 : ∀ z, zAn q9 H3.size z → s.heap.size ≤ z := fun z h => by
    rcases h with rfl | h
    · exact hD3.2 _ _ hq9n
    · exact Nat.le_trans hS3.1 h
  refine va_callv hrun9 hS3 (fun z _ h => hf9 z h) hf9 (fun aM t4 H4 locs4 ht4 halike4 hpost4 hB4 hsz4 hk4 hS4 => ?_)
  obtain ⟨m1, m2, m3⟩ := hpost4
  have hB4 : va_P D zcl (zWs cA UM aM eM0) H4 := by rw [← ht4]; exact hB4
  obtain ⟨hP4, hD4⟩ := zjoin hP3 hD3 hk4 m1 m2 m3 hB4 (fun z h => Nat.le_trans hS3.1 h)
  clear hP3 hD3 hS3 hB4 hrun9 hpre9 hk4 hsz4
  refine lv_astore_n (k := 2) (i := 2) (nL := 9) (lv' := [(2, .ref q9), (1, .ref q8), (0, .ref b)]) hx hb (show decode code 15 = .ok (.astore_n 2, 1) by decide +kernel) rfl hl (by decide) rfl (fun ls hl => ?_)
  refine lv_iconst hx hb (show decode code 16 = .ok (.iconst 1, 1) by decide +kernel) (v := 1) rfl ?_
  refine va_newa (a0 := (1, .inr (.inl (fun _ => 0)))) (ty := .long) (atype := .long) (N' := 1) hx hb (hts (.arrayClass .long) (zmem_of (by decide +kernel))) rfl hK hP4 hD4 hS4 hA (fun cI => rfl) (by decide) (by decide) (by decide) (by decide +kernel) (by decide +kernel) (show decode code 17 = .ok (.newarray .long, 2) by decide +kernel) (fun q1 cI H5 hK5 hP5 hD5 hS5 => ?_)
  have hcI : cI = cA.2.2.2.1 := zRA_eq (ty := .long) (fun C h => by cases h) (hK5.2 5 (cI, .long) rfl).2 (hK.2 3 (cA.2.2.2.1, .long) rfl).2
  subst hcI
  refine lv_astore_n (k := 3) (i := 3) (nL := 9) (lv' := [(3, .ref q1), (2, .ref q9), (1, .ref q8), (0, .ref b)]) hx hb (show decode code 19 = .ok (.astore_n 3, 1) by decide +kernel) rfl hl (by decide) rfl (fun ls hl => ?_)
  refine lv_iconst hx hb (show decode code 20 = .ok (.iconst 1, 1) by decide +kernel) (v := 1) rfl ?_
  refine va_newa (a0 := (1, .inr (.inr (.inr (.inl (fun _ => 0)))))) (ty := .double) (atype := .double) (N' := 1) hx hb (hts (.arrayClass .double) (zmem_of (by decide +kernel))) rfl hK hP5 hD5 hS5 hA (fun cI => rfl) (by decide) (by decide) (by decide) (by decide +kernel) (by decide +kernel) (show decode code 21 = .ok (.newarray .double, 2) by decide +kernel) (fun q2 cI H6 hK6 hP6 hD6 hS6 => ?_)
  have hcI : cI = cA.2.2.2.2 := zRA_eq (ty := .double) (fun C h => by cases h) (hK6.2 5 (cI, .double) rfl).2 (hK.2 4 (cA.2.2.2.2, .double) rfl).2
  subst hcI
  refine lv_astore (i := 4) (nL := 9) (lv' := [(4, .ref q2), (3, .ref q1), (2, .ref q9), (1, .ref q8), (0, .ref b)]) hx hb (show decode code 23 = .ok (.astore 4, 2) by decide +kernel) hl (by decide) rfl (fun ls hl => ?_)
  refine lv_iconst hx hb (show decode code 25 = .ok (.iconst 0, 1) by decide +kernel) (v := nI 0) rfl ?_
  refine lv_istore (i := 5) (nL := 9) (lv' := [(5, .int (nI 0)), (4, .ref q2), (3, .ref q1), (2, .ref q9), (1, .ref q8), (0, .ref b)]) hx hb (show decode code 26 = .ok (.istore 5, 2) by decide +kernel) hl (by decide) rfl (fun ls hl => ?_)
  obtain ⟨g1, g2, g3⟩ := zstart (b := b) hP6 hD6
  have hctx : zKw L xs p l e s m #[Value.ref b] below meth c D cA (zad9 b (zadL (fun k => aC (zpi k)) aM q1 q2)) := ⟨C0, rfl, hflags, hK0, zZ_of htl hgv, g2, g3, zNc_of hgv⟩
  have hls : lv_has ls 9 (zll (zad9 b (zadL (fun k => aC (zpi k)) aM q1 q2)) 0 (zLs (nI 0) none none none)) := by
    subst c1
    subst m1
    exact lv_sub hl [5, 4, 3, 2, 1, 0] rfl
  exact h28 (0 + 1 + rX8_init.cells + 1 + rX9_init.cells + 1 + 1) (0 + 8 + rX8_init.slots + 19 + rX9_init.slots + 1 + 1) (by decide +kernel) (by decide +kernel) p l e s m #[Value.ref b] below meth c D cA _ hctx H6 _ ls g1 hS6 hls (by decide) (by decide +kernel) (by decide +kernel)
end ZGs
