/-! CONSTRUCTORS: the reference -/
section ZGg
set_option maxRecDepth 40000
/-- a number is put into the first block, a row -/
theorem zNst {Y : zM} {ci : Nat} {U : zU} {G0 : zF} {pc kc ks : Nat} {fs : List Value} {n : Nat} {G : zF} {ad : Nat → Nat} {r : List zBl} {T : u_T} {N : Nat} (hci : zcl[ci]? = some (zMo Y, T, N)) {ig k cl : Nat} {ni : Int} {i v : Int32}
    (d0 : decode (zMc Y) pc = .ok (.aload_n 0, 1)) (dg : decode (zMc Y) (pc + 1) = .ok (.getfield ig, 3)) (di : decode (zMc Y) (pc + 1 + 3) = .ok (.iconst ni, 1)) (hi : Int32.ofInt ni = i) (hpu : zNu (zMc Y) (pc + 1 + 3 + 1) cl v) (ds : decode (zMc Y) (pc + 1 + 3 + 1 + cl) = .ok (.iastore, 1)) (w7 : Cond.fieldLink (zMo Y) ig (zMo Y) (T k).2.1 (T k).2.2.1 ∈ zts) (hk : k < N) (hTk : (T k).1 = zMo Y) (hfk : fs[k]? = some (.ref (ad 0))) (hin : vp_in i n)
    (hgo : zNW Y ci U G0 (pc + 1 + 3 + 1 + cl + 1) kc ks fs ((uA 1 n, ad, zup G 0 i.toNatClampNeg v) :: r)) : zNW Y ci U G0 pc kc ks fs ((uA 1 n, ad, G) :: r) := by
  intro p l e s m args below meth c D cA h0 hC H locs lsl hP hD hS hl
  obtain ⟨hx, hb, hr, hml, hown, hts, hlocks, hin9, hK, hfl, hlt, hao⟩ := id hC
  obtain ⟨hw9, ty0, hty0, hnm0⟩ := zcl_ok _ (List.mem_of_getElem? hci)
  refine lv_aload_n (k := 0) hx hb d0 rfl (lv_at hl 0 rfl) ?_
  refine va_get (ci := ci) (v := .ref (ad 0)) (C := zMo Y) (T := T) (N := N) (ref := zMo Y) hx hb hts hw9 hown hK.1 hP 0 rfl hci k hk (hts _ w7) (fun x h9 => by rw [hTk] at h9; exact h9) hfk dg ?_
  refine lv_iconst hx hb di hi ?_
  have hmain : W p l e (zMr Y) s m args below meth c H locs kc ks (MQ below (va_Qv (fun ad : Nat → Nat => ad 0 = h0 ∧ zinj U ad ∧ ∀ k, k < U.1 → k ≠ 0 → s.heap.size ≤ ad k) (fun ad t => va_P D zcl (zWs cA U ad G0) t.heap) (zAn h0 s.heap.size)) args s (zMr Y).cells (zMr Y).slots (zAn h0 s.heap.size)) (F0 m (pc + 1 + 3 + 1 + cl) lsl [.int v, .int i, .ref (ad 0)]) := by
    refine va_iast hx hb hK.1 hP hD hS 1 0 (cA := cA.1) (n := n) (f := G 0) rfl rfl hin ds (fun H1 locs1 hP1 hD1 hS1 => ?_)
    have eb : zBs cA ((uA 1 n, ad, zup G 0 i.toNatClampNeg v) :: r) = (ad 0, .inl (cA.1, n, .inl (upd (G 0) i.toNatClampNeg v))) :: zBs cA r := by
      show [(ad 0, zE cA ad (1, n, []) (zup G 0 i.toNatClampNeg v 0))] ++ zBs cA r = _
      rw [zup_self]
      rfl
    refine hgo p l e s m args below meth c D cA h0 hC H1 locs1 lsl ?_ ?_ hS1 hl
    · rw [eb]; exact hP1
    · rw [eb]; exact hD1
  rcases hpu with ⟨v9, rfl, e1, e2⟩ | ⟨v9, rfl, e1, e2⟩
  · exact lv_iconst hx hb e1 e2 hmain
  · exact lv_bipush hx hb e1 e2 hmain
theorem zbA {U : zU} {G0 : zF} {o kd n : Nat} {G : zF} (h0 : U.2 o = (kd, n, [])) (g0 : G0 o = G 0) : ∀ j, j < (uA kd n).1 → U.2 (o + j) = zren (fun i => o + i) ((uA kd n).2 j) ∧ zclo (uA kd n).1 ((uA kd n).2 j) = true ∧ G0 (o + j) = G j := by
  intro j hj
  have hj : j < 1 := hj
  rcases (show j = 0 by omega) with rfl
  exact ⟨h0, rfl, g0⟩
def rX9_init : Room := { frames := 1, cells := 9, slots := 2465, locals := 12 }
abbrev YN9 : zM := (RX9, cX9_init, 1, none, rX9_init, UM, fun _ => none, fun _ _ => none)
def fN9 : List Value := [.int 0, .null, .null, .int 0, .null, .int 0, .null, .null, .int 0, .int 0, .int 0, .int 0, .null, .null, .int 0, .null, .int 0, .null, .int 0]
theorem dN9 : ∀ j, j < 19 → defaultValue (tyX9 j) = vp_V fN9 j := by
  intro j hj
  rcases (show j = 0 ∨ j = 1 ∨ j = 2 ∨ j = 3 ∨ j = 4 ∨ j = 5 ∨ j = 6 ∨ j = 7 ∨ j = 8 ∨ j = 9 ∨ j = 10 ∨ j = 11 ∨ j = 12 ∨ j = 13 ∨ j = 14 ∨ j = 15 ∨ j = 16 ∨ j = 17 ∨ j = 18 by omega) with rfl | rfl | rfl | rfl | rfl | rfl | rfl | rfl | rfl | rfl | rfl | rfl | rfl | rfl | rfl | rfl | rfl | rfl | rfl <;> rfl
set_option maxHeartbeats 4000000 in
theorem nX9 : zNew UM yX9_init cX9_init 1 rX9_init 9 fN9 [] eM0 := by
  refine zNstart (Y := YN9) (io := 3) (by decide +kernel) rfl rfl (Nat.le_refl 1) (by decide +kernel) (by decide +kernel) (zmem 1086 (by decide +kernel) (by decide +kernel)) (zmem 88 (by decide +kernel) (by decide +kernel)) (zmem 89 (by decide +kernel) (by decide +kernel)) ⟨Nat.le_of_ble_eq_true rfl, Nat.le_of_ble_eq_true rfl⟩ ?_
  refine zNarr (Y := YN9) (ci := 9) (T := TX9) (N := 19) rfl rfl 1 197 .int .int (fun cA => cA.1) 0 (cl := 3) (ip := 9) (k := 1) (ty9 := tyX9 1) (by decide) (fun C h => by cases h) rfl (by decide) (fun _ => rfl) (fun _ _ => rfl) (fun _ => rfl) (by decide) (zmem 112 (by decide +kernel) (by decide +kernel)) (by decide +kernel) (Or.inr ⟨197, rfl, by decide +kernel, rfl⟩) (by decide +kernel) (by decide +kernel) (zmem 1088 (by decide +kernel) (by decide +kernel)) (by decide) rfl (tyX9_ok 1 (by decide)) (fun _ => rfl) (fun _ => rfl) (Nat.le_of_ble_eq_true rfl) (Nat.le_of_ble_eq_true rfl) (fun q0 => ?_)
  refine zNarr (Y := YN9) (ci := 9) (T := TX9) (N := 19) rfl rfl 1 1576 .int .int (fun cA => cA.1) 0 (cl := 3) (ip := 13) (k := 2) (ty9 := tyX9 2) (by decide) (fun C h => by cases h) rfl (by decide) (fun _ => rfl) (fun _ _ => rfl) (fun _ => rfl) (by decide) (zmem 112 (by decide +kernel) (by decide +kernel)) (by decide +kernel) (Or.inr ⟨1576, rfl, by decide +kernel, rfl⟩) (by decide +kernel) (by decide +kernel) (zmem 1089 (by decide +kernel) (by decide +kernel)) (by decide) rfl (tyX9_ok 2 (by decide)) (fun _ => rfl) (fun _ => rfl) (Nat.le_of_ble_eq_true rfl) (Nat.le_of_ble_eq_true rfl) (fun q1 => ?_)
  refine zNarr (Y := YN9) (ci := 9) (T := TX9) (N := 19) rfl rfl 1 197 .int .int (fun cA => cA.1) 0 (cl := 3) (ip := 16) (k := 4) (ty9 := tyX9 4) (by decide) (fun C h => by cases h) rfl (by decide) (fun _ => rfl) (fun _ _ => rfl) (fun _ => rfl) (by decide) (zmem 112 (by decide +kernel) (by decide +kernel)) (by decide +kernel) (Or.inr ⟨197, rfl, by decide +kernel, rfl⟩) (by decide +kernel) (by decide +kernel) (zmem 1091 (by decide +kernel) (by decide +kernel)) (by decide) rfl (tyX9_ok 4 (by decide)) (fun _ => rfl) (fun _ => rfl) (Nat.le_of_ble_eq_true rfl) (Nat.le_of_ble_eq_true rfl) (fun q2 => ?_)
  refine zNarr (Y := YN9) (ci := 9) (T := TX9) (N := 19) rfl rfl 1 197 .int .int (fun cA => cA.1) 0 (cl := 3) (ip := 19) (k := 6) (ty9 := tyX9 6) (by decide) (fun C h => by cases h) rfl (by decide) (fun _ => rfl) (fun _ _ => rfl) (fun _ => rfl) (by decide) (zmem 112 (by decide +kernel) (by decide +kernel)) (by decide +kernel) (Or.inr ⟨197, rfl, by decide +kernel, rfl⟩) (by decide +kernel) (by decide +kernel) (zmem 1093 (by decide +kernel) (by decide +kernel)) (by decide) rfl (tyX9_ok 6 (by decide)) (fun _ => rfl) (fun _ => rfl) (Nat.le_of_ble_eq_true rfl) (Nat.le_of_ble_eq_true rfl) (fun q3 => ?_)
  refine zNarr (Y := YN9) (ci := 9) (T := TX9) (N := 19) rfl rfl 1 50 .int .int (fun cA => cA.1) 0 (cl := 2) (ip := 22) (k := 7) (ty9 := tyX9 7) (by decide) (fun C h => by cases h) rfl (by decide) (fun _ => rfl) (fun _ _ => rfl) (fun _ => rfl) (by decide) (zmem 112 (by decide +kernel) (by decide +kernel)) (by decide +kernel) (Or.inl ⟨50, rfl, by decide +kernel, rfl⟩) (by decide +kernel) (by decide +kernel) (zmem 1094 (by decide +kernel) (by decide +kernel)) (by decide) rfl (tyX9_ok 7 (by decide)) (fun _ => rfl) (fun _ => rfl) (Nat.le_of_ble_eq_true rfl) (Nat.le_of_ble_eq_true rfl) (fun q4 => ?_)
  refine zNint (Y := YN9) (ci := 9) (T := TX9) (N := 19) (ip := 25) (k := 10) (cl := 1) (v := (-1)) (ty9 := tyX9 10) rfl rfl (by decide +kernel) (Or.inl ⟨(-1), rfl, by decide +kernel, rfl⟩) (by decide +kernel) (zmem 1097 (by decide +kernel) (by decide +kernel)) (by decide) rfl (tyX9_ok 10 (by decide)) rfl rfl ?_
  refine zNarr (Y := YN9) (ci := 9) (T := TX9) (N := 19) rfl rfl 1 200 .int .int (fun cA => cA.1) 0 (cl := 3) (ip := 29) (k := 12) (ty9 := tyX9 12) (by decide) (fun C h => by cases h) rfl (by decide) (fun _ => rfl) (fun _ _ => rfl) (fun _ => rfl) (by decide) (zmem 112 (by decide +kernel) (by decide +kernel)) (by decide +kernel) (Or.inr ⟨200, rfl, by decide +kernel, rfl⟩) (by decide +kernel) (by decide +kernel) (zmem 1099 (by decide +kernel) (by decide +kernel)) (by decide) rfl (tyX9_ok 12 (by decide)) (fun _ => rfl) (fun _ => rfl) (Nat.le_of_ble_eq_true rfl) (Nat.le_of_ble_eq_true rfl) (fun q5 => ?_)
  refine zNarr (Y := YN9) (ci := 9) (T := TX9) (N := 19) rfl rfl 1 16 .int .int (fun cA => cA.1) 0 (cl := 2) (ip := 32) (k := 13) (ty9 := tyX9 13) (by decide) (fun C h => by cases h) rfl (by decide) (fun _ => rfl) (fun _ _ => rfl) (fun _ => rfl) (by decide) (zmem 112 (by decide +kernel) (by decide +kernel)) (by decide +kernel) (Or.inl ⟨16, rfl, by decide +kernel, rfl⟩) (by decide +kernel) (by decide +kernel) (zmem 1100 (by decide +kernel) (by decide +kernel)) (by decide) rfl (tyX9_ok 13 (by decide)) (fun _ => rfl) (fun _ => rfl) (Nat.le_of_ble_eq_true rfl) (Nat.le_of_ble_eq_true rfl) (fun q6 => ?_)
  refine zNarr (Y := YN9) (ci := 9) (T := TX9) (N := 19) rfl rfl 1 16 .int .int (fun cA => cA.1) 0 (cl := 2) (ip := 35) (k := 15) (ty9 := tyX9 15) (by decide) (fun C h => by cases h) rfl (by decide) (fun _ => rfl) (fun _ _ => rfl) (fun _ => rfl) (by decide) (zmem 112 (by decide +kernel) (by decide +kernel)) (by decide +kernel) (Or.inl ⟨16, rfl, by decide +kernel, rfl⟩) (by decide +kernel) (by decide +kernel) (zmem 1102 (by decide +kernel) (by decide +kernel)) (by decide) rfl (tyX9_ok 15 (by decide)) (fun _ => rfl) (fun _ => rfl) (Nat.le_of_ble_eq_true rfl) (Nat.le_of_ble_eq_true rfl) (fun q7 => ?_)
  refine zNarr (Y := YN9) (ci := 9) (T := TX9) (N := 19) rfl rfl 2 16 .boolean .boolean (fun cA => cA.2.1) 1 (cl := 2) (ip := 38) (k := 17) (ty9 := tyX9 17) (by decide) (fun C h => by cases h) rfl (by decide) (fun _ => rfl) (fun _ _ => rfl) (fun _ => rfl) (by decide) (zmem 1145 (by decide +kernel) (by decide +kernel)) (by decide +kernel) (Or.inl ⟨16, rfl, by decide +kernel, rfl⟩) (by decide +kernel) (by decide +kernel) (zmem 1104 (by decide +kernel) (by decide +kernel)) (by decide) rfl (tyX9_ok 17 (by decide)) (fun _ => rfl) (fun _ => rfl) (Nat.le_of_ble_eq_true rfl) (Nat.le_of_ble_eq_true rfl) (fun q8 => ?_)
  refine zNst (Y := YN9) (ci := 9) (T := TX9) (N := 19) (ig := 9) (k := 1) (cl := 1) (ni := 3) (i := nI 3) (v := 5) rfl (by decide +kernel) (by decide +kernel) (by decide +kernel) rfl (Or.inl ⟨5, rfl, by decide +kernel, rfl⟩) (by decide +kernel) (zmem 1088 (by decide +kernel) (by decide +kernel)) (by decide) rfl rfl (vp_in_nI (by decide) (by decide)) ?_
  refine zNst (Y := YN9) (ci := 9) (T := TX9) (N := 19) (ig := 9) (k := 1) (cl := 2) (ni := 4) (i := nI 4) (v := 20) rfl (by decide +kernel) (by decide +kernel) (by decide +kernel) rfl (Or.inr ⟨20, rfl, by decide +kernel, rfl⟩) (by decide +kernel) (zmem 1088 (by decide +kernel) (by decide +kernel)) (by decide) rfl rfl (vp_in_nI (by decide) (by decide)) ?_
  refine zNret (Y := YN9) (sl := [none, some 1, some 2, none, some 3, none, some 4, some 5, none, none, none, none, some 6, some 7, none, some 8, none, some 9, none]) (by decide +kernel) (Nat.le_of_ble_eq_true rfl) (Nat.le_of_ble_eq_true rfl) rfl rfl ⟨zbA rfl ?_, ⟨zbA rfl rfl, ⟨zbA rfl rfl, ⟨zbA rfl rfl, ⟨zbA rfl rfl, ⟨zbA rfl rfl, ⟨zbA rfl rfl, ⟨zbA rfl rfl, ⟨zbA rfl rfl, True.intro⟩⟩⟩⟩⟩⟩⟩⟩⟩ (fun ad h => ?_)
  · funext i
    show eM0 1 i = zup (zup (fun _ _ => 0) 0 3 5) 0 4 20 0 i
    by_cases h3 : i = 3
    · subst h3; rfl
    · by_cases h4 : i = 4
      · subst h4; rfl
      · rw [zup_an _ _ _ h4, zup_an _ _ _ h3]
        show (if i = 3 then (5 : Int32) else if i = 4 then 20 else 0) = 0
        rw [if_neg h3, if_neg h4]
  have e0 : ad 1 = q0 := h 0 (Nat.le_of_ble_eq_true rfl)
  have e1 : ad 2 = q1 := h 1 (Nat.le_of_ble_eq_true rfl)
  have e2 : ad 3 = q2 := h 2 (Nat.le_of_ble_eq_true rfl)
  have e3 : ad 4 = q3 := h 3 (Nat.le_of_ble_eq_true rfl)
  have e4 : ad 5 = q4 := h 4 (Nat.le_of_ble_eq_true rfl)
  have e5 : ad 6 = q5 := h 5 (Nat.le_of_ble_eq_true rfl)
  have e6 : ad 7 = q6 := h 6 (Nat.le_of_ble_eq_true rfl)
  have e7 : ad 8 = q7 := h 7 (Nat.le_of_ble_eq_true rfl)
  have e8 : ad 9 = q8 := h 8 (Nat.le_of_ble_eq_true rfl)
  show [Value.int (eM0 0 0), Value.ref (ad 1), Value.ref (ad 2), Value.int (eM0 0 3), Value.ref (ad 3), Value.int (eM0 0 5), Value.ref (ad 4), Value.ref (ad 5), Value.int (eM0 0 8), Value.int (eM0 0 9), Value.int (eM0 0 10), Value.int (eM0 0 11), Value.ref (ad 6), Value.ref (ad 7), Value.int (eM0 0 14), Value.ref (ad 8), Value.int (eM0 0 16), Value.ref (ad 9), Value.int (eM0 0 18)] = _
  rw [e0, e1, e2, e3, e4, e5, e6, e7, e8]
  rfl
end ZGg
