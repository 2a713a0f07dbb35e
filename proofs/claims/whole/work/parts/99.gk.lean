/-! CONSTRUCTORS: Changes -/
section ZGk
set_option maxRecDepth 40000
def fN2 : List Value := [.null, .int 0, .int 0]
theorem dN2 : ∀ j, j < 3 → defaultValue (tyX2 j) = vp_V fN2 j := by
  intro j hj
  rcases (show j = 0 ∨ j = 1 ∨ j = 2 by omega) with rfl | rfl | rfl <;> rfl
set_option maxHeartbeats 4000000 in
theorem nX2 : zNew uN2 yX2_init cX2_init 2 rX2_init 2 fN2 [] gN2 := by
  refine zNstart (Y := YN2) (io := 3) (by decide +kernel) rfl rfl (by decide) (by decide +kernel) (by decide +kernel) (zmem 309 (by decide +kernel) (by decide +kernel)) (zmem 88 (by decide +kernel) (by decide +kernel)) (zmem 89 (by decide +kernel) (by decide +kernel)) ⟨Nat.le_of_ble_eq_true rfl, Nat.le_of_ble_eq_true rfl⟩ ?_
  intro p l e s m args below meth c D cA h0 hC H locs lsl hP hD hS hl
  obtain ⟨hx, hb, hr, hml, hown, hts, hlocks, hin, hK, hfl, hlt, hao⟩ := id hC
  have hb : c.code = cX2_init := hb
  have hA : ∀ q : Nat, s.heap.size ≤ q → zAn h0 s.heap.size q := fun q h => Or.inr h
  obtain ⟨hw9, ty0, hty0, hnm0⟩ := zcl_ok _ (List.mem_of_getElem? (i := 2) rfl)
  refine lv_aload_n (k := 0) hx hb (by decide +kernel) rfl (lv_at hl 0 rfl) ?_
  refine lv_bipush (n := 8) (v := nI 8) hx hb (by decide +kernel) rfl ?_
  refine va_newq (C := RX1) (N' := 8) hx hb hown (hts (Cond.classLink RX2 9 RX1) (zmem 310 (by decide +kernel) (by decide +kernel))) hao hK.1 hP hD hS hA (by decide) rfl (by decide) (Nat.le_of_ble_eq_true rfl) (Nat.le_of_ble_eq_true rfl) (by decide +kernel) (fun qa cI H1 hK1 hP1 hD1 hS1 => ?_)
  have hcI : cI = cA.2.2.1 := by
    obtain ⟨kA, comp, -, -, -, g1⟩ := (hK1.2 5 (cI, .object RX1) rfl).2
    obtain ⟨kA2, comp2, -, -, -, g2⟩ := (hK.1.2 2 (cA.2.2.1, .object RX1) rfl).2
    exact Option.some.inj (g1.symm.trans g2)
  subst hcI
  refine va_putF (ci := 2) (v := .ref qa) (ty := tyX2 0) (C := RX2) (T := TX2) (N := 3) (ref := RX2) hx hb hts hw9 ty0 hty0 hnm0 hown hK1 hP1 hD1 hS1 0 rfl rfl 0 (by decide) (hts (Cond.fieldLink RX2 11 RX2 "kept" "[LLockMaster$Canal;") (zmem 313 (by decide +kernel) (by decide +kernel))) (fun _ h9 => h9) rfl hin rfl (tyX2_ok 0 (by decide)) rfl rfl (Nat.le_of_ble_eq_true rfl) (by decide +kernel) (fun H2 locs2 hP2 hD2 hS2 => ?_)
  refine lv_aload_n (k := 0) hx hb (by decide +kernel) rfl (lv_at hl 0 rfl) ?_
  refine lv_iconst (n := 0) (v := 0) hx hb (by decide +kernel) (by decide) ?_
  refine va_put (ci := 2) (v := .int 0) (ty := tyX2 1) (C := RX2) (T := TX2) (N := 3) (ref := RX2) hx hb hts hw9 ty0 hty0 hnm0 hown hK1 hP2 hD2 hS2 0 rfl rfl 1 (by decide) (hts (Cond.fieldLink RX2 17 RX2 "newest" "I") (zmem 314 (by decide +kernel) (by decide +kernel))) (fun _ h9 => h9) rfl (tyX2_ok 1 (by decide)) rfl rfl (Nat.le_of_ble_eq_true rfl) (by decide +kernel) (fun H3 locs3 hP3 hD3 hS3 => ?_)
  refine lv_aload_n (k := 0) hx hb (by decide +kernel) rfl (lv_at hl 0 rfl) ?_
  refine lv_iconst (n := 0) (v := 0) hx hb (by decide +kernel) (by decide) ?_
  refine va_put (ci := 2) (v := .int 0) (ty := tyX2 2) (C := RX2) (T := TX2) (N := 3) (ref := RX2) hx hb hts hw9 ty0 hty0 hnm0 hown hK1 hP3 hD3 hS3 0 rfl rfl 2 (by decide) (hts (Cond.fieldLink RX2 21 RX2 "count" "I") (zmem 315 (by decide +kernel) (by decide +kernel))) (fun _ h9 => h9) rfl (tyX2_ok 2 (by decide)) rfl rfl (Nat.le_of_ble_eq_true rfl) (by decide +kernel) (fun H4 locs4 hP4 hD4 hS4 => ?_)
  refine lv_iconst (n := 0) (v := 0) hx hb (by decide +kernel) (by decide) ?_
  refine lv_istore_n (k := 1) (lv' := [(1, .int 0), (0, .ref h0)]) hx hb (by decide +kernel) rfl hl (by decide) rfl (fun ls hl => ?_)
  have hw : zcW cA h0 qa (fun _ _ => 0) 0 = [(h0, .inr (2, [.ref qa, .int 0, .int 0])), (qa, .inl (cA.2.2.1, 8, .inr (.inr (.inr (.inr (fun _ => none))))))] := by
    unfold zcW
    have e : (fun j : Nat => if j < 0 then some (0 : Nat) else none) = fun _ => none := by
      funext j
      exact if_neg (Nat.not_lt_zero j)
    rw [e]
    rfl
  exact zChA 8 0 rfl p l e s m args below meth c D cA h0 hC qa (fun _ _ => 0) H4 locs4 ls (by rw [hw]; exact hP4) (by rw [hw]; exact hD4) hS4 (lv_sub hl [1, 0] rfl)
end ZGk
