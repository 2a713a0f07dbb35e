/-! THE PURE PART: a convoy is cut -/
section ZE9
set_option maxRecDepth 20000
theorem eOne (s w x v : Nat) (hw : w < 9) (hv : v < 9) : 53 + 9 * s + w = 53 + 9 * x + v ↔ s = x ∧ w = v := by omega
theorem mOf_zup (F : zF) (s w : Nat) (y : Int32) {x v : Nat} (hw : w < 9) (hv : v < 9) : mOf (zup F 1 (53 + 9 * s + w) y) x v = if x = s ∧ v = w then y else mOf F x v := by
  unfold mOf zup
  rw [if_pos rfl]
  by_cases h : x = s ∧ v = w
  · rw [if_pos h, if_pos (by omega)]
  · rw [if_neg h, if_neg (by omega)]
theorem mSp1_r : ∀ (t : List Nat) (F : zF) (j : Nat), t.Nodup → (∀ x w, w < 9 → ¬ x ∈ t → mOf (mSp1 F t j) x w = mOf F x w) ∧ (∀ i x, t[i]? = some x → mOf (mSp1 F t j) x 6 = 16 ∧ mOf (mSp1 F t j) x 7 = nI (j + i)) ∧ ∀ x w, w < 9 → w ≠ 6 → w ≠ 7 → mOf (mSp1 F t j) x w = mOf F x w
  | [], F, j, _ => ⟨fun x w _ _ => rfl, fun i x h => (nomatch h), fun x w _ _ _ => rfl⟩
  | s :: t, F, j, hd => by
    have hd := List.nodup_cons.mp hd
    obtain ⟨h1, h2, h3⟩ := mSp1_r t (mSa F s j) (j + 1) hd.2
    have hs : ∀ x w, w < 9 → mOf (mSa F s j) x w = if x = s ∧ w = 7 then nI j else if x = s ∧ w = 6 then 16 else mOf F x w := fun x w hw => by
      unfold mSa
      rw [mOf_zup _ _ _ _ (by decide) hw, mOf_zup _ _ _ _ (by decide) hw]
    refine ⟨fun x w hw hx => ?_, fun i x hx => ?_, fun x w hw h6 h7 => ?_⟩
    · show mOf (mSp1 (mSa F s j) t (j + 1)) x w = mOf F x w
      have hxs : x ≠ s := fun h => hx (by rw [h]; exact List.mem_cons_self)
      rw [h1 x w hw (fun h => hx (List.mem_cons_of_mem _ h)), hs x w hw, if_neg (fun h => hxs h.1), if_neg (fun h => hxs h.1)]
    · show mOf (mSp1 (mSa F s j) t (j + 1)) x 6 = 16 ∧ mOf (mSp1 (mSa F s j) t (j + 1)) x 7 = nI (j + i)
      cases i with
      | zero =>
        cases hx
        rw [h1 s 6 (by decide) hd.1, h1 s 7 (by decide) hd.1, hs s 6 (by decide), hs s 7 (by decide), if_neg (fun h => absurd h.2 (by decide)), if_pos ⟨rfl, rfl⟩, if_pos ⟨rfl, rfl⟩]
        exact ⟨rfl, rfl⟩
      | succ i =>
        have := h2 i x (by simpa using hx)
        rw [show j + (i + 1) = j + 1 + i by omega]
        exact this
    · show mOf (mSp1 (mSa F s j) t (j + 1)) x w = mOf F x w
      rw [h3 x w hw h6 h7, hs x w hw, if_neg (fun h => h7 h.2), if_neg (fun h => h6 h.2)]
theorem mSp2_r (F : zF) (f : Nat) : ∀ k x w, w < 9 → mOf (mSp2 F f k) x w = if (w = 6 ∧ x < k) ∧ mOf F x 6 = 16 then nI f else mOf F x w
  | 0, x, w, _ => by
    rw [if_neg (fun h => absurd h.1.2 (Nat.not_lt_zero x))]
    rfl
  | k + 1, x, w, hw => by
    have ih := mSp2_r F f k
    have hk : mOf (mSp2 F f k) k 6 = mOf F k 6 := by rw [ih k 6 (by decide), if_neg (fun h => absurd h.1.2 (Nat.lt_irrefl k))]
    unfold mSp2
    rw [hk]
    by_cases h16 : mOf F k 6 = 16
    · rw [if_pos h16, mOf_zup _ _ _ _ (by decide) hw, ih x w hw]
      by_cases hx : x = k ∧ w = 6
      · rw [if_pos hx, if_pos ⟨⟨hx.2, by omega⟩, by rw [hx.1]; exact h16⟩]
      · rw [if_neg hx]
        by_cases h2 : (w = 6 ∧ x < k) ∧ mOf F x 6 = 16
        · rw [if_pos h2, if_pos ⟨⟨h2.1.1, by omega⟩, h2.2⟩]
        · rw [if_neg h2, if_neg (fun h3 => h2 ⟨⟨h3.1.1, by have := h3.1.1; have := h3.1.2; omega⟩, h3.2⟩)]
    · rw [if_neg h16, ih x w hw]
      by_cases h2 : (w = 6 ∧ x < k) ∧ mOf F x 6 = 16
      · rw [if_pos h2, if_pos ⟨⟨h2.1.1, by omega⟩, h2.2⟩]
      · rw [if_neg h2, if_neg (fun h3 => h2 ⟨⟨h3.1.1, by
          have h4 := h3.1.2
          rcases Nat.lt_or_ge x k with h5 | h5
          · exact h5
          · exact absurd (by rw [show k = x by omega]; exact h3.2) h16⟩, h3.2⟩)]
theorem mSpl_r (F : zF) (n : Nat) (L : List Nat) (r : Nat) (hn : n ≤ 16) (hd : L.Nodup) (hlt : ∀ x, x ∈ L → x < n) (h16 : ∀ x, x < n → ¬ mOf F x 6 = 16) :
    (∀ x w, w < 9 → ¬ x ∈ L.drop r → mOf (mSpl F n L r) x w = mOf F x w) ∧ (∀ i x, (L.drop r)[i]? = some x → mOf (mSpl F n L r) x 6 = eHd (L.drop r) ∧ mOf (mSpl F n L r) x 7 = nI i) ∧ ∀ x w, w < 9 → w ≠ 6 → w ≠ 7 → mOf (mSpl F n L r) x w = mOf F x w := by
  have hd2 : (L.drop r).Nodup := hd.sublist (List.drop_sublist r L)
  have hm : ∀ x, x ∈ L.drop r → x < n := fun x hx => hlt x (List.mem_of_mem_drop hx)
  unfold mSpl
  cases hD : L.drop r with
  | nil => exact ⟨fun x w _ _ => rfl, fun i x h => (nomatch h), fun x w _ _ _ => rfl⟩
  | cons f t =>
    rw [hD] at hd2 hm
    obtain ⟨h1, h2, h3⟩ := mSp1_r (f :: t) F 0 hd2
    dsimp only
    refine ⟨fun x w hw hx => ?_, fun i x hx => ?_, fun x w hw h6 h7 => ?_⟩
    · rw [mSp2_r _ _ n x w hw, h1 x w hw hx, h1 x 6 (by decide) hx, if_neg (fun h => h16 x h.1.2 h.2)]
    · obtain ⟨g1, g2⟩ := h2 i x hx
      rw [mSp2_r _ _ n x 6 (by decide), mSp2_r _ _ n x 7 (by decide), if_pos ⟨⟨rfl, hm x (List.mem_of_getElem? hx)⟩, g1⟩, if_neg (fun h => absurd h.1.1 (by decide)), g2, Nat.zero_add]
      exact ⟨rfl, rfl⟩
    · rw [mSp2_r _ _ n x w hw, if_neg (fun h => h6 h.1.1), h3 x w hw h6 h7]
theorem eHd_d1 {L : List Nat} {p : Nat} (h1 : 1 ≤ p) (h2 : p ≤ L.length) : eHd (L.drop (p - 1)) = nI (L.getD (p - 1) 0) := by
  rw [eHd_drop, List.getD_eq_getElem?_getD, List.getElem?_eq_getElem (show p - 1 < L.length by omega)]
  rfl
/-- the class's cut -/
theorem qCt_v {G F : zF} {n : Nat} {cv : Nat → List Nat} (hn : n ≤ 16) (h : eCv G (F 1) n cv) {a p : Nat} (ha : a < n) (hh : eHd (cv a) = nI a) (hf : qFi G (nI a) = nI a) (h1 : 1 ≤ p) (h2 : p ≤ (cv a).length) :
    qCt G (nI a) (nI p) = eSt 41 (eHd ((cv a).drop p)) ((cv a).drop p) (zup G 43 ((cv a).getD (p - 1) 0) (-1)) := by
  obtain ⟨⟨c1, c2⟩, c3, c4, c5, c6⟩ := h.2 a ha
  have hl := eCv_len hn h ha
  have hx : (cv a).getD (p - 1) 0 ∈ cv a := by
    rw [List.getD_eq_getElem?_getD, List.getElem?_eq_getElem (show p - 1 < (cv a).length by omega)]
    exact List.getElem_mem _
  unfold qCt
  rw [eSOC hn h ha hh hf (by omega), nI_m1 h1, eSOC hn h ha hh hf (by omega), eHd_d1 h1 h2, zwr_k _ _ _ (eChn_16 _ c1 _ hx) (by decide)]
  have hcd : ∀ (q : Nat) (L : List Nat), eChn G L → eChn G (L.drop q) := by
    intro q
    induction q with
    | zero => intro L h; exact h
    | succ q ih => intro L h; cases L with
      | nil => exact h
      | cons y t => exact ih t h.2.2
  refine eNm _ 16 _ _ ?_ (by rw [List.length_drop]; omega)
  refine eChn_c _ (fun x hx2 => ?_) (hcd p _ c1)
  refine zup_an _ _ _ (fun he => ?_)
  rw [he] at hx2
  rw [List.getD_eq_getElem?_getD, List.getElem?_eq_getElem (show p - 1 < (cv a).length by omega)] at hx2
  obtain ⟨i, hi⟩ := List.mem_iff_getElem?.mp hx2
  rw [List.getElem?_drop] at hi
  have h3 : (cv a)[p - 1]? = some ((cv a)[p - 1]'(by omega)) := List.getElem?_eq_getElem _
  have := (List.getElem?_inj (show p - 1 < (cv a).length by omega) c2).mp (h3.trans hi.symm)
  omega
end ZE9
