/-! CONSTRUCTORS: Changes, its end -/
section ZGj
set_option maxRecDepth 40000
theorem zcB_8 (A : Nat → Nat → Nat) : zcB A 8 = [(uN1, A 0, gN1), (uN1, A 1, gN1), (uN1, A 2, gN1), (uN1, A 3, gN1), (uN1, A 4, gN1), (uN1, A 5, gN1), (uN1, A 6, gN1), (uN1, A 7, gN1)] := rfl
theorem zbC : ∀ b, b < 8 → ∀ j, j < uN1.1 → uN2.2 (2 + 45 * b + j) = zren (fun i => 2 + 45 * b + i) (uN1.2 j) ∧ zclo uN1.1 (uN1.2 j) = true ∧ gN2 (2 + 45 * b + j) = gN1 j := by
  have h : ∀ b, b < 8 → ∀ j, j < 45 → uN2.2 (2 + 45 * b + j) = zren (fun i => 2 + 45 * b + i) (uN1.2 j) ∧ zclo 45 (uN1.2 j) = true := by decide +kernel
  intro b hb j hj
  have hj : j < 45 := hj
  refine ⟨(h b hb j hj).1, (h b hb j hj).2, ?_⟩
  funext i
  unfold gN2
  rw [if_neg (by omega), show (2 + 45 * b + j - 2) % 45 = j by omega]
theorem zbC8 (A : Nat → Nat → Nat) : zBsh uN2 gN2 2 (zcB A 8) := by
  rw [zcB_8]
  exact ⟨zbC 0 (by decide), zbC 1 (by decide), zbC 2 (by decide), zbC 3 (by decide), zbC 4 (by decide), zbC 5 (by decide), zbC 6 (by decide), zbC 7 (by decide), True.intro⟩
theorem zadl_8 (A : Nat → Nat → Nat) : ∀ j, j < 8 → zadl (zcB A 8) (45 * j) = A j 0 := by
  intro j hj
  rcases (show j = 0 ∨ j = 1 ∨ j = 2 ∨ j = 3 ∨ j = 4 ∨ j = 5 ∨ j = 6 ∨ j = 7 by omega) with rfl | rfl | rfl | rfl | rfl | rfl | rfl | rfl <;> rfl
theorem zsl_8 : ∀ j, j < 8 → znth (uN2.2 1).2.2 j = some (some (2 + 45 * j)) := by decide +kernel
set_option maxHeartbeats 4000000 in
theorem zChE : zCh 25 8 := by
  intro p l e s m args below meth c D cA h0 hC qa A H locs lsl hP hD hS hl
  obtain ⟨hx, hb, hr, hml, hown, hts, hlocks, hin, hK, hfl, hlt, hao⟩ := id hC
  have hb : c.code = cX2_init := hb
  obtain ⟨hw9, ty0, hty0, hnm0⟩ := zcl_ok _ (List.mem_of_getElem? (i := 2) rfl)
  have hw7 := hts (Cond.fieldLink RX2 11 RX2 "kept" "[LLockMaster$Canal;") (zmem 313 (by decide +kernel) (by decide +kernel))
  refine lv_iload_n (k := 1) hx hb (by decide +kernel) rfl (lv_at hl 1 rfl) ?_
  refine lv_aload_n (k := 0) hx hb (by decide +kernel) rfl (lv_at hl 0 rfl) ?_
  refine va_get (ci := 2) (v := .ref qa) (C := RX2) (T := TX2) (N := 3) (ref := RX2) hx hb hts hw9 hown hK.1 hP 0 rfl rfl 0 (by decide) hw7 (fun _ h9 => h9) rfl (by decide +kernel) ?_
  refine va_alen (v := nI 8) hx hb hK.1 hP 1 2 rfl rfl rfl (by decide +kernel) ?_
  refine lv_icmp_ge (off := 22) (tgt := 53) hx hb (by decide +kernel) (by decide) (fun _ => ?_) (fun h9 => absurd (by decide) h9)
  have hadl : ∀ k, k < zBsz (zcB A 8) → (fun k => if k = 0 then h0 else if k = 1 then qa else zadl (zcB A 8) (k - 2)) (2 + k) = zadl (zcB A 8) k := fun k _ => by
    show (if 2 + k = 0 then h0 else if 2 + k = 1 then qa else zadl (zcB A 8) (2 + k - 2)) = _
    rw [if_neg (by omega), if_neg (by omega), show 2 + k - 2 = k by omega]
  have ha0 : (fun k => if k = 0 then h0 else if k = 1 then qa else zadl (zcB A 8) (k - 2)) 0 = h0 := if_pos rfl
  have ha1 : (fun k => if k = 0 then h0 else if k = 1 then qa else zadl (zcB A 8) (k - 2)) 1 = qa := (if_neg (by decide)).trans (if_pos rfl)
  generalize (fun k => if k = 0 then h0 else if k = 1 then qa else zadl (zcB A 8) (k - 2)) = ad at hadl ha0 ha1
  have hsz : zBsz (zcB A 8) = 360 := rfl
  have hpos : ∀ k, k < uN2.1 → (zcW cA h0 qa A 8)[k]? = some (ad k, zE cA ad (uN2.2 k) (gN2 k)) := fun k hk => by
    have hk : k < 362 := hk
    match k, hk with
    | 0, _ =>
      rw [ha0]
      have e0 : zE cA ad (uN2.2 0) (gN2 0) = .inr (2, [.ref qa, .int 0, .int 0]) := by
        rw [← ha1]
        rfl
      rw [e0]
      rfl
    | 1, _ =>
      rw [ha1]
      have e1 : zE cA ad (uN2.2 1) (gN2 1) = .inl (cA.2.2.1, 8, .inr (.inr (.inr (.inr (fun j => if j < 8 then some (A j 0) else none))))) := by
        refine congrArg (fun z => (Sum.inl (cA.2.2.1, 8, .inr (.inr (.inr (.inr z)))) : va_E)) ?_
        funext j
        show ((znth (uN2.2 1).2.2 j).getD none).map ad = if j < 8 then some (A j 0) else none
        by_cases hj : j < 8
        · rw [zsl_8 j hj, if_pos hj]
          show some (ad (2 + 45 * j)) = some (A j 0)
          rw [hadl (45 * j) (by rw [hsz]; omega), zadl_8 A j hj]
        · rw [if_neg hj, znth_eq, List.getElem?_eq_none (by show 8 ≤ j; omega)]
          rfl
      rw [e1]
      rfl
    | k + 2, hk =>
      have h1 := zBpos (cA := cA) (ad := ad) (zcB A 8) 2 (zbC8 A) hadl k (by rw [hsz]; omega)
      rw [show 2 + k = k + 2 by omega] at h1
      exact h1
  refine W.widen (k := 361) (n := 2008) (Nat.le_of_ble_eq_true rfl) (Nat.le_of_ble_eq_true rfl) ?_
  refine W.vret hx hb hr (fun t ht hW => ⟨⟨ad, rfl, ⟨ha0, fun i j hi hj hij => hD.1 i j _ _ (hpos i hi) (hpos j hj) hij, fun k hk hk0 => ?_⟩, ?_⟩, hS.F ht⟩) hS.2.2 (by decide +kernel)
  · rcases hD.2 k _ (hpos k hk) with h | h
    · exact absurd (hD.1 k 0 _ (h0, .inr (2, [.ref qa, .int 0, .int 0])) (hpos k hk) rfl h) hk0
    · exact h
  · show va_P D zcl (zWs cA uN2 ad gN2) t.heap
    rw [ht]
    intro k q hq
    obtain ⟨hk, rfl⟩ := zWs_in hq
    exact hP k _ (hpos k hk)
theorem zChA : ∀ d i, i + d = 8 → zCh 25 i := by
  intro d
  induction d with
  | zero =>
    intro i h
    have : i = 8 := by omega
    subst this
    exact zChE
  | succ d ih => exact fun i h => zChS (by omega) (ih (i + 1) (by omega))
end ZGj
