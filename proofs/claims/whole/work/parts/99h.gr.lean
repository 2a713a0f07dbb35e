/-! THE LAW, from its entry to its loop -/
section ZGr
set_option maxRecDepth 40000
theorem zWs_cg {D : va_G} {cA : zT} {U : zU} {ad ad' : Nat → Nat} {F : zF} {H : Heap} (h1 : ∀ k, k < U.1 → ad k = ad' k) (h2 : ∀ k, k < U.1 → zclo U.1 (U.2 k) = true) (hP : va_P D zcl (zWs cA U ad F) H) : va_P D zcl (zWs cA U ad' F) H := by
  intro k q hq
  obtain ⟨hk, rfl⟩ := zWs_in hq
  have h3 := hP k _ (zWs_at cA U ad F hk)
  rw [zE_cg h1 (h2 k hk), h1 k hk] at h3
  exact h3
theorem zUL_clo : ∀ k, k < 521 → zclo 521 (UL.2 k) = true := by decide +kernel
theorem zpos {cA : zT} {aC aM : Nat → Nat} {q1 q2 : Nat} {e1 e2 : va_E} {F G : zF} : ∀ k, k < 521 → ∃ e, (((zWs cA uN8 aC F ++ zWs cA UM aM G) ++ [(q1, e1)]) ++ [(q2, e2)] : va_W)[if k < 509 then zpi k else k]? = some (zadL (fun k => aC (zpi k)) aM q1 q2 k, e) := by
  have l1 : (zWs cA uN8 aC F).length = 509 := by
    show ((List.range 509).map _).length = 509
    rw [List.length_map, List.length_range]
  have l2 : (zWs cA UM aM G).length = 10 := by
    show ((List.range 10).map _).length = 10
    rw [List.length_map, List.length_range]
  intro k hk
  unfold zadL
  by_cases k1 : k < 509
  · rw [if_pos k1, if_pos k1]
    have h := zpi_lt k1
    refine ⟨zE cA aC (uN8.2 (zpi k)) (F (zpi k)), ?_⟩
    rw [List.getElem?_append_left (by simp [l1, l2]; omega), List.getElem?_append_left (by simp [l1, l2]; omega), List.getElem?_append_left (by omega)]
    exact zWs_at cA uN8 aC F h
  · rw [if_neg k1, if_neg k1]
    by_cases k2 : k < 519
    · rw [if_pos k2]
      refine ⟨zE cA aM (UM.2 (k - 509)) (G (k - 509)), ?_⟩
      rw [List.getElem?_append_left (by simp [l1, l2]; omega), List.getElem?_append_left (by simp [l1, l2]; omega), List.getElem?_append_right (by omega), l1]
      exact zWs_at cA UM aM G (show k - 509 < 10 by omega)
    · rw [if_neg k2]
      by_cases k3 : k = 519
      · rw [if_pos k3]
        subst k3
        refine ⟨e1, ?_⟩
        rw [List.getElem?_append_left (by simp [l1, l2]), List.getElem?_append_right (by simp [l1, l2])]
        simp [l1, l2]
      · rw [if_neg k3]
        have : k = 520 := by omega
        subst this
        refine ⟨e2, ?_⟩
        rw [List.getElem?_append_right (by simp [l1, l2])]
        simp [l1, l2]
theorem zposn {i j : Nat} (hi : i < 521) (hj : j < 521) (h : (if i < 509 then zpi i else i) = if j < 509 then zpi j else j) : i = j := by
  by_cases i1 : i < 509 <;> by_cases j1 : j < 509
  · rw [if_pos i1, if_pos j1] at h
    exact zpi_inj i1 j1 h
  · rw [if_pos i1, if_neg j1] at h
    have := zpi_lt i1
    omega
  · rw [if_neg i1, if_pos j1] at h
    have := zpi_lt j1
    omega
  · rw [if_neg i1, if_neg j1] at h
    exact h
def zad9 (b : Nat) (ad : Nat → Nat) : Nat → Nat := fun k => if k = 521 then b else ad k
/-- the law's start, put together -/
theorem zstart {D : va_G} {cA : zT} {A : Nat → Prop} {aC aM : Nat → Nat} {q1 q2 b : Nat} {H : Heap} (hP : va_P D zcl (((zWs cA uN8 aC gN8 ++ zWs cA UM aM eM0) ++ [(q1, .inl (cA.2.2.2.1, 1, .inr (.inl (fun _ => 0))))]) ++ [(q2, .inl (cA.2.2.2.2, 1, .inr (.inr (.inr (.inl (fun _ => 0))))))]) H)
    (hD : va_D A (((zWs cA uN8 aC gN8 ++ zWs cA UM aM eM0) ++ [(q1, .inl (cA.2.2.2.1, 1, .inr (.inl (fun _ => 0))))]) ++ [(q2, .inl (cA.2.2.2.2, 1, .inr (.inr (.inr (.inl (fun _ => 0))))))])) :
    va_P D zcl (zWs cA UL (zad9 b (zadL (fun k => aC (zpi k)) aM q1 q2)) eL0) H ∧ zinj UL (zad9 b (zadL (fun k => aC (zpi k)) aM q1 q2)) ∧ ∀ k, k < 521 → A (zad9 b (zadL (fun k => aC (zpi k)) aM q1 q2) k) := by
  have e9 : ∀ k, k < 521 → zad9 b (zadL (fun k => aC (zpi k)) aM q1 q2) k = zadL (fun k => aC (zpi k)) aM q1 q2 k := fun k hk => if_neg (by omega)
  have pCM := va_P_pre (va_P_pre hP)
  have pC := va_P_pre pCM
  have pM : va_P D zcl (zWs cA UM aM eM0) H := fun k q hq => pCM (509 + k) q (by
    have l1 : (zWs cA uN8 aC gN8).length = 509 := by
      show ((List.range 509).map _).length = 509
      rw [List.length_map, List.length_range]
    rw [List.getElem?_append_right (by omega), l1, show 509 + k - 509 = k by omega]
    exact hq)
  have p1 : va_at D zcl (q1, .inl (cA.2.2.2.1, 1, .inr (.inl (fun _ => 0)))) H := va_P_last (va_P_pre hP) 0 _ rfl
  have p2 : va_at D zcl (q2, .inl (cA.2.2.2.2, 1, .inr (.inr (.inr (.inl (fun _ => 0)))))) H := va_P_last hP 0 _ rfl
  refine ⟨zWs_cg (fun k hk => (e9 k hk).symm) zUL_clo (zUL_P (zLM_P pC) pM p1 p2), fun i j hi hj h => ?_, fun k hk => ?_⟩
  · have hi : i < 521 := hi
    have hj : j < 521 := hj
    rw [e9 i hi, e9 j hj] at h
    obtain ⟨x1, g1⟩ := zpos (cA := cA) (aC := aC) (aM := aM) (q1 := q1) (q2 := q2) (e1 := .inl (cA.2.2.2.1, 1, .inr (.inl (fun _ => 0)))) (e2 := .inl (cA.2.2.2.2, 1, .inr (.inr (.inr (.inl (fun _ => 0)))))) (F := gN8) (G := eM0) i hi
    obtain ⟨x2, g2⟩ := zpos (cA := cA) (aC := aC) (aM := aM) (q1 := q1) (q2 := q2) (e1 := .inl (cA.2.2.2.1, 1, .inr (.inl (fun _ => 0)))) (e2 := .inl (cA.2.2.2.2, 1, .inr (.inr (.inr (.inl (fun _ => 0)))))) (F := gN8) (G := eM0) j hj
    exact zposn hi hj (hD.1 _ _ _ _ g1 g2 h)
  · rw [e9 k hk]
    obtain ⟨x1, g1⟩ := zpos (cA := cA) (aC := aC) (aM := aM) (q1 := q1) (q2 := q2) (e1 := .inl (cA.2.2.2.1, 1, .inr (.inl (fun _ => 0)))) (e2 := .inl (cA.2.2.2.2, 1, .inr (.inr (.inr (.inl (fun _ => 0)))))) (F := gN8) (G := eM0) k hk
    exact hD.2 _ _ g1
end ZGr
