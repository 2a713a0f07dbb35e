/-! what the statement's words give at the law's entry -/
section ZGq
set_option maxRecDepth 20000
theorem zStr {own tx : String} {k : Nat} {A : Array Value} {U : State} (h : (Cond.stringRef own k tx).before A U = true) : ∃ a, vk_R own k tx a U := by
  have h1 := h
  simp only [Cond.before, Cond.holds, Cond.value] at h1
  cases h5 : U.vm.findClass own with
  | none => simp [h5] at h1
  | some cu =>
    cases h6 : U.vm.classes[cu]? with
    | none => simp [h5, State.resolvedAt?, h6] at h1
    | some k9 =>
      cases h7 : (k9.resolved[k]?).join with
      | none => simp [h5, State.resolvedAt?, h6, h7] at h1
      | some r9 =>
        cases r9 with
        | string a => exact ⟨a, vk_R.of h (by simp [Term.eval, h5, h6, h7])⟩
        | _ => simp [h5, State.resolvedAt?, h6, h7] at h1
theorem zcl_inst : ∀ q ∈ zcl, Cond.instantiable q.1 q.2.2 ∈ lw_tbl := by
  intro q hq
  simp only [zcl, List.mem_cons, List.not_mem_nil, or_false] at hq
  rcases hq with rfl | rfl | rfl | rfl | rfl | rfl | rfl | rfl | rfl | rfl <;> decide +kernel
theorem zD_of {s : State} {args : Array Value} (hts : ∀ w ∈ lw_tbl, w.before args s = true) : ∃ D : va_G, ∀ (c : Nat) (q : vw_C), zcl[c]? = some q → u_Kn s q.1 q.2.1 q.2.2 (D.1 c) (D.2 c) := by
  have h1 : ∀ w ∈ zts, w.before args s = true := fun w hw => hts w (List.mem_filter.mp hw).1
  have h2 : ∀ c : Nat, ∃ x : ClassId × (Nat → Nat), ∀ q, zcl[c]? = some q → u_Kn s q.1 q.2.1 q.2.2 x.1 x.2 := fun c => by
    cases hc : zcl[c]? with
    | none => exact ⟨(0, fun _ => 0), fun q hq => by cases hq⟩
    | some q0 =>
      have hm := List.mem_of_getElem? hc
      obtain ⟨cC, iS, hk⟩ := u_known (n := q0.2.2) h1 (zcl_ok q0 hm).1 (hts _ (zcl_inst q0 hm))
      exact ⟨(cC, iS), fun q hq => by cases hq; exact hk⟩
  exact ⟨(fun c => (Classical.choose (h2 c)).1, fun c => (Classical.choose (h2 c)).2), fun c q hq => Classical.choose_spec (h2 c) q hq⟩
theorem zcA_of {s : State} {args : Array Value} (hts : ∀ w ∈ lw_tbl, w.before args s = true) : ∃ cA : zT, ∀ (k : Nat) (q : ClassId × FieldType), (ztys cA)[k]? = some q → ArrOfT s q.1 q.2 ∧ va_RA s q.1 q.2 := by
  obtain ⟨c1, a1⟩ := zArrC (ty := .int) (fun C h => by cases h) (hts _ (List.mem_of_getElem? (i := 112) (by decide +kernel)))
  obtain ⟨c2, a2⟩ := zArrC (ty := .boolean) (fun C h => by cases h) (hts _ (List.mem_of_getElem? (i := 1145) (by decide +kernel)))
  obtain ⟨c3, a3⟩ := zArrO (s := s) (args := args) (hts _ (List.mem_of_getElem? (i := 311) (by decide +kernel)))
  obtain ⟨c4, a4⟩ := zArrC (ty := .long) (fun C h => by cases h) (hts _ (List.mem_of_getElem? (i := 1400) (by decide +kernel)))
  obtain ⟨c5, a5⟩ := zArrC (ty := .double) (fun C h => by cases h) (hts _ (List.mem_of_getElem? (i := 1401) (by decide +kernel)))
  refine ⟨(c1, c2, c3, c4, c5), fun k q hq => ?_⟩
  match k, hq with
  | 0, hq => cases hq; exact a1
  | 1, hq => cases hq; exact a2
  | 2, hq => cases hq; exact a3
  | 3, hq => cases hq; exact a4
  | 4, hq => cases hq; exact a5
  | k + 5, hq => simp [ztys] at hq
theorem znw_tabs : ∀ w ∈ znw, w.onTables = true := by
  intro w hw
  have h2 : zisN w = true := (List.mem_filter.mp hw).2
  cases w <;> first | rfl | cases h2
theorem zK_of {s : State} {args : Array Value} (hts : ∀ w ∈ lw_tbl, w.before args s = true) : ∃ (D : va_G) (cA : zT), zK D cA s := by
  obtain ⟨D, hD⟩ := zD_of hts
  obtain ⟨cA, hcA⟩ := zcA_of hts
  refine ⟨D, cA, ⟨hD, hcA⟩, fun w hw => va_Nw.of (znw_tabs w hw) (hts w (List.mem_filter.mp hw).1), fun q hq => ?_⟩
  simp only [zstr, List.mem_cons, List.not_mem_nil, or_false] at hq
  rcases hq with rfl | rfl | rfl | rfl | rfl | rfl
  · exact zStr (hts _ (List.mem_of_getElem? (i := 483) (by decide +kernel)))
  · exact zStr (hts _ (List.mem_of_getElem? (i := 522) (by decide +kernel)))
  · exact zStr (hts _ (List.mem_of_getElem? (i := 601) (by decide +kernel)))
  · exact zStr (hts _ (List.mem_of_getElem? (i := 691) (by decide +kernel)))
  · exact zStr (hts _ (List.mem_of_getElem? (i := 820) (by decide +kernel)))
  · exact zStr (hts _ (List.mem_of_getElem? (i := 1057) (by decide +kernel)))
end ZGq
