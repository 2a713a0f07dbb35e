/-! THE PURE PART: the convoys behind a cut -/
section ZEa
set_option maxRecDepth 20000
theorem eCv_lt {G : zF} {M : Nat → Int32} {n : Nat} {cv : Nat → List Nat} (h : eCv G M n cv) {a x : Nat} (ha : a < n) (hx : x ∈ cv a) : x < n := by
  obtain ⟨i, hi⟩ := List.mem_iff_getElem?.mp hx
  exact ((h.2 a ha).2.2.1 i x hi).1
theorem eCv_uniq {G : zF} {M : Nat → Int32} {n : Nat} {cv : Nat → List Nat} (hn : n ≤ 16) (h : eCv G M n cv) {a b x : Nat} (ha : a < n) (hb : b < n) (hx : x ∈ cv a) (hy : x ∈ cv b) : a = b := by
  obtain ⟨i, hi⟩ := List.mem_iff_getElem?.mp hx
  obtain ⟨j, hj⟩ := List.mem_iff_getElem?.mp hy
  have h1 := ((h.2 a ha).2.2.1 i x hi).2.1
  have h2 := ((h.2 b hb).2.2.1 j x hj).2.1
  exact (nI_eq (by omega) (by omega)).mp (h1.symm.trans h2)
/-- a first ship's row is its own, another's is empty -/
theorem eCv_emp {G : zF} {M : Nat → Int32} {n : Nat} {cv : Nat → List Nat} (hn : n ≤ 16) (h : eCv G M n cv) {a b : Nat} (ha : a < n) (hb : b < n) (hx : b ∈ cv a) (hne : b ≠ a) : cv b = [] := by
  rcases (h.2 b hb).2.1 with h1 | h1
  · exact h1
  · have h2 : b ∈ cv b := List.mem_of_mem_head? h1
    exact absurd (eCv_uniq hn h hb ha h2 hx) hne
theorem eCv1_same {G H : zF} {M N : Nat → Int32} {n a : Nat} {L : List Nat} (h : eCv1 G M n a L) (hx : ∀ x, x ∈ L → H 43 x = G 43 x ∧ H 41 x = G 41 x ∧ H 35 x = G 35 x ∧ eO N x 6 = eO M x 6 ∧ eO N x 7 = eO M x 7 ∧ eO N x 3 = eO M x 3) : eCv1 H N n a L := by
  obtain ⟨⟨h1, h9⟩, h2, h3, h4, h5⟩ := h
  have ha : L = [] ∨ a ∈ L := h2.imp (fun h => h) (fun h => List.mem_of_mem_head? h)
  refine ⟨⟨eChn_c _ (fun x hx2 => (hx x hx2).1) h1, h9⟩, h2, fun i x hi => ?_, fun x hx2 => ?_, fun h6 => ?_⟩
  · have h6 := hx x (List.mem_of_getElem? hi)
    rw [h6.2.2.2.1, h6.2.2.2.2.1]
    exact h3 i x hi
  · have h6 := hx x hx2
    rcases ha with ha | ha
    · rw [ha] at hx2; exact nomatch hx2
    · have h7 := hx a ha
      rw [h6.2.1, h6.2.2.1, h7.2.2.1, h6.2.2.2.2.2, h7.2.2.2.2.2]
      exact h4 x hx2
  · rcases ha with ha | ha
    · rw [ha]; exact Nat.zero_le _
    · rw [(hx a ha).2.2.1] at h6
      exact h5 h6
theorem eTk_drop {L : List Nat} (hd : L.Nodup) {p x : Nat} (h1 : x ∈ L.take p) (h2 : x ∈ L.drop p) : False := by
  rw [← List.take_append_drop p L, List.nodup_append] at hd
  exact hd.2.2 x h1 x h2 rfl
theorem eChn_take {G H : zF} : ∀ (L : List Nat) (p : Nat), eChn G L → L.Nodup → p + 1 ≤ L.length → H 43 (L.getD p 0) = -1 → (∀ x, x ∈ L.take (p + 1) → x ≠ L.getD p 0 → H 43 x = G 43 x) → eChn H (L.take (p + 1))
  | [], p, _, _, h, _, _ => absurd h (by simp)
  | x :: t, 0, hc, _, _, h2, _ => ⟨hc.1, by simpa [eHd] using h2, True.intro⟩
  | x :: t, p + 1, hc, hd, h, h2, h3 => by
    have hd := List.nodup_cons.mp hd
    have hl : p + 1 ≤ t.length := by simpa using h
    have e : (x :: t).getD (p + 1) 0 = t.getD p 0 := rfl
    rw [e] at h2 h3
    have hm : t.getD p 0 ∈ t := by
      rw [List.getD_eq_getElem?_getD, List.getElem?_eq_getElem (show p < t.length by omega)]
      exact List.getElem_mem _
    refine ⟨hc.1, ?_, eChn_take t p hc.2.2 hd.2 hl h2 (fun y hy hne => h3 y (List.mem_cons_of_mem _ hy) hne)⟩
    rw [h3 x List.mem_cons_self (fun q => hd.1 (by rw [q]; exact hm)), hc.2.1]
    cases t with
    | nil => exact absurd hl (by simp)
    | cons y u => rfl
def eCut (cv : Nat → List Nat) (a p : Nat) : Nat → List Nat := fun h => if h = a then (cv a).take p else if ((cv a).drop p).head? = some h then (cv a).drop p else cv h
theorem eCv_cut {G H F N : zF} {n : Nat} {cv : Nat → List Nat} (hn : n ≤ 16) (h : eCv G (F 1) n cv) {a p : Nat} (ha : a < n) (hh : (cv a).head? = some a) (h1 : p + 1 ≤ (cv a).length)
    (h43 : H 43 ((cv a).getD p 0) = -1) (h43o : ∀ x, x ≠ (cv a).getD p 0 → H 43 x = G 43 x) (h41 : ∀ x, x ∈ (cv a).drop (p + 1) → H 41 x = eHd ((cv a).drop (p + 1))) (h41o : ∀ x, ¬ x ∈ (cv a).drop (p + 1) → H 41 x = G 41 x) (h35 : H 35 = G 35)
    (k1 : ∀ x w, w < 9 → ¬ x ∈ (cv a).drop (p + 1) → mOf N x w = mOf F x w) (k2 : ∀ i x, ((cv a).drop (p + 1))[i]? = some x → mOf N x 6 = eHd ((cv a).drop (p + 1)) ∧ mOf N x 7 = nI i) (k3 : ∀ x w, w < 9 → w ≠ 6 → w ≠ 7 → mOf N x w = mOf F x w) : eCv H (N 1) n (eCut cv a (p + 1)) := by
  obtain ⟨⟨c1, c2⟩, c3, c4, c5, c6⟩ := h.2 a ha
  have haL : a ∈ (cv a) := List.mem_of_mem_head? hh
  have hy : (cv a).getD p 0 ∈ (cv a).take (p + 1) := by
    rw [List.mem_iff_getElem?]
    refine ⟨p, ?_⟩
    rw [List.getElem?_take, if_pos (by omega), List.getD_eq_getElem?_getD, List.getElem?_eq_getElem (show p < (cv a).length by omega)]
    rfl
  have haT : a ∈ (cv a).take (p + 1) := by
    cases hL : cv a with
    | nil => rw [hL] at haL; exact nomatch haL
    | cons y t =>
      rw [hL] at hh
      cases hh
      exact List.mem_cons_self
  have hTD : ∀ x, x ∈ (cv a).take (p + 1) → ¬ x ∈ (cv a).drop (p + 1) := fun x q1 q2 => eTk_drop c2 q1 q2
  have hfa : ∀ f, ((cv a).drop (p + 1)).head? = some f → f ∈ (cv a).drop (p + 1) ∧ f ∈ cv a ∧ f < n ∧ f ≠ a ∧ eHd ((cv a).drop (p + 1)) = nI f := fun f hf => by
    have q1 : f ∈ (cv a).drop (p + 1) := List.mem_of_mem_head? hf
    have q2 : f ∈ cv a := List.mem_of_mem_drop q1
    refine ⟨q1, q2, eCv_lt h ha q2, fun q => hTD f (by rw [q]; exact haT) q1, ?_⟩
    cases hD : (cv a).drop (p + 1) with
    | nil => rw [hD] at hf; exact nomatch hf
    | cons y t =>
      rw [hD] at hf
      cases hf
      rfl
  refine ⟨fun s hs => ?_, fun b hb => ?_⟩
  · obtain ⟨b, hb, hsb⟩ := h.1 s hs
    unfold eCut
    by_cases hba : b = a
    · subst hba
      rw [← List.take_append_drop (p + 1) (cv b), List.mem_append] at hsb
      rcases hsb with hsb | hsb
      · exact ⟨b, hb, by rw [if_pos rfl]; exact hsb⟩
      · cases hD : ((cv b).drop (p + 1)).head? with
        | none =>
          rw [List.head?_eq_none_iff] at hD
          rw [hD] at hsb
          exact nomatch hsb
        | some f =>
          have q := hfa f hD
          refine ⟨f, q.2.2.1, ?_⟩
          rw [if_neg q.2.2.2.1, if_pos rfl]
          exact hsb
    · refine ⟨b, hb, ?_⟩
      rw [if_neg hba, if_neg (fun q => ?_)]
      · exact hsb
      · have q := hfa b q
        rw [eCv_emp hn h ha hb q.2.1 q.2.2.2.1] at hsb
        exact nomatch hsb
  · unfold eCut
    by_cases hba : b = a
    · subst hba
      rw [if_pos rfl]
      refine ⟨⟨eChn_take _ _ c1 c2 h1 h43 (fun x _ hne => h43o x hne), c2.sublist (List.take_sublist _ _)⟩, Or.inr ?_, fun i x hi => ?_, fun x hx => ?_, fun h6 => ?_⟩
      · cases hL : cv b with
        | nil => rw [hL] at haL; exact nomatch haL
        | cons y t =>
          rw [hL] at hh
          exact hh
      · have hx := List.mem_of_getElem? hi
        have hnd := hTD x hx
        rw [List.getElem?_take] at hi
        split at hi
        · have q := c4 i x hi
          have e6 : eO (N 1) x 6 = eO (F 1) x 6 := k1 x 6 (by decide) hnd
          have e7 : eO (N 1) x 7 = eO (F 1) x 7 := k1 x 7 (by decide) hnd
          rw [e6, e7]
          exact q
        · exact nomatch hi
      · have hnd := hTD x hx
        have e3 : eO (N 1) x 3 = eO (F 1) x 3 := k3 x 3 (by decide) (by decide) (by decide)
        have e4 : eO (N 1) b 3 = eO (F 1) b 3 := k3 b 3 (by decide) (by decide) (by decide)
        rw [h41o x hnd, h35, e3, e4]
        exact c5 x (List.mem_of_mem_take hx)
      · rw [h35] at h6
        have := c6 h6
        rw [List.length_take]
        omega
    · rw [if_neg hba]
      by_cases hbf : ((cv a).drop (p + 1)).head? = some b
      · rw [if_pos hbf]
        obtain ⟨q1, q2, q3, q4, q5⟩ := hfa b hbf
        have hcd : ∀ (q : Nat) (L : List Nat), eChn G L → eChn G (L.drop q) := by
          intro q
          induction q with
          | zero => intro L h; exact h
          | succ q ih => intro L h; cases L with
            | nil => exact h
            | cons y t => exact ih t h.2.2
        refine ⟨⟨eChn_c _ (fun x hx => h43o x (fun q => hTD _ hy (by rw [← q]; exact hx))) (hcd _ _ c1), c2.sublist (List.drop_sublist _ _)⟩, Or.inr hbf, fun i x hi => ?_, fun x hx => ?_, fun h6 => ?_⟩
        · have g := k2 i x hi
          rw [q5] at g
          exact ⟨eCv_lt h ha (List.mem_of_mem_drop (List.mem_of_getElem? hi)), g⟩
        · have g1 := c5 x (List.mem_of_mem_drop hx)
          have g2 := c5 b q2
          have e3 : eO (N 1) x 3 = eO (F 1) x 3 := k3 x 3 (by decide) (by decide) (by decide)
          have e4 : eO (N 1) b 3 = eO (F 1) b 3 := k3 b 3 (by decide) (by decide) (by decide)
          rw [h41 x hx, q5, h35, e3, e4, g1.2.1, g2.2.1, g1.2.2, g2.2.2]
          exact ⟨rfl, rfl, rfl⟩
        · rw [h35, (c5 b q2).2.1] at h6
          have := c6 h6
          rw [List.length_drop]
          omega
      · rw [if_neg hbf]
        have hno : ∀ x, x ∈ cv b → ¬ x ∈ cv a := fun x g1 g2 => hba (eCv_uniq hn h hb ha g1 g2)
        refine eCv1_same (h.2 b hb) (fun x hx => ?_)
        have hx2 : ¬ x ∈ (cv a).drop (p + 1) := fun g => hno x hx (List.mem_of_mem_drop g)
        refine ⟨h43o x (fun g => hno x hx (by rw [g]; exact List.mem_of_mem_take hy)), h41o x hx2, by rw [h35], k1 x 6 (by decide) hx2, k1 x 7 (by decide) hx2, k1 x 3 (by decide) hx2⟩
end ZEa
