/-! THE PURE PART: the row that would go, the rules -/
section ZE4
set_option maxRecDepth 20000
def nZ (F : zF) (s : Nat) : Nat := (mOf F s 0).toNatClampNeg
def nD (F : zF) (s : Nat) : Nat := (mOf F s 1).toNatClampNeg
def nK (F : zF) (s : Nat) : Nat := (mOf F s 2).toNatClampNeg
def nU (F : zF) (s : Nat) : Nat := (mOf F s 3).toNatClampNeg
theorem eNat {G F : zF} {n m T s : Nat} (h : eSh G (F 1) n m T) (hs : s < n) : (mOf F s 0 = nI (nZ F s) ∧ 1 ≤ nZ F s ∧ nZ F s ≤ 9 ∧ mOf F s 1 = nI (nD F s) ∧ 1 ≤ nD F s ∧ nD F s ≤ 99 ∧ mOf F s 2 = nI (nK F s) ∧ nK F s ≤ 3 ∧ mOf F s 3 = nI (nU F s) ∧ nU F s ≤ 1) ∧ G 27 s = nI (nZ F s) ∧ G 29 s = nI (nD F s) ∧ G 31 s = nI (nK F s) ∧ G 33 s = nI (nU F s) := by
  obtain ⟨⟨e1, e2, e3, e4, e5⟩, z, d, r, u, h1, ⟨h2, h3, h4, h5⟩, h6⟩ := h s hs
  have g1 : nZ F s = z := (congrArg Int32.toNatClampNeg h2).trans (nI_clamp (by omega))
  have g2 : nD F s = d := (congrArg Int32.toNatClampNeg h3).trans (nI_clamp (by omega))
  have g3 : nK F s = r := (congrArg Int32.toNatClampNeg h4).trans (nI_clamp (by omega))
  have g4 : nU F s = u := (congrArg Int32.toNatClampNeg h5).trans (nI_clamp (by omega))
  rw [g1, g2, g3, g4]
  exact ⟨⟨h2, h1.1, h1.2.1, h3, h1.2.2.1, h1.2.2.2.1, h4, h1.2.2.2.2.1, h5, h1.2.2.2.2.2⟩, e1.trans h2, e2.trans h3, e3.trans h4, e4.trans h5⟩
def eRw (F : zF) (len : Nat) : List Nat → Nat → List Nat
  | [], _ => []
  | s :: t, a => if a + nZ F s ≤ len then s :: eRw F len t (a + nZ F s) else []
def eSum (F : zF) : List Nat → Nat → Nat
  | [], a => a
  | s :: t, a => eSum F t (a + nZ F s)
def eMaD (F : zF) : List Nat → Nat → Nat
  | [], a => a
  | s :: t, a => eMaD F t (max a (nD F s))
def eMiK (F : zF) : List Nat → Nat → Nat
  | [], a => a
  | s :: t, a => eMiK F t (min a (nK F s))
theorem eMiK_le (F : zF) : ∀ R a, eMiK F R a ≤ a
  | [], _ => Nat.le_refl _
  | s :: t, a => by
    have := eMiK_le F t (min a (nK F s))
    show eMiK F t (min a (nK F s)) ≤ a
    omega
theorem eMaD_ge (F : zF) : ∀ R a, a ≤ eMaD F R a
  | [], _ => Nat.le_refl _
  | s :: t, a => by
    have := eMaD_ge F t (max a (nD F s))
    show a ≤ eMaD F t (max a (nD F s))
    omega
theorem eMaD_le (F : zF) (b : Nat) : ∀ R a, (∀ x, x ∈ R → nD F x ≤ b) → a ≤ b → eMaD F R a ≤ b
  | [], _, _, h => h
  | s :: t, a, h, h2 => eMaD_le F b t _ (fun x hx => h x (List.mem_cons_of_mem _ hx)) (by have := h s List.mem_cons_self; omega)
theorem eSum_le (F : zF) (len : Nat) : ∀ L a, a ≤ len → eSum F (eRw F len L a) a ≤ len
  | [], _, h => h
  | s :: t, a, h => by
    unfold eRw
    split
    · rename_i h1
      exact eSum_le F len t _ h1
    · exact h
theorem eRw_m {F : zF} {len : Nat} (hl : len ≤ 9) : ∀ (L : List Nat) (a : Nat), (∀ x, x ∈ L → mOf F x 0 = nI (nZ F x) ∧ nZ F x ≤ 9) → a ≤ len → mRw F (nI len) L (nI a) = eRw F len L a
  | [], _, _, _ => rfl
  | s :: t, a, h, h2 => by
    obtain ⟨h3, h4⟩ := h s List.mem_cons_self
    unfold mRw eRw
    rw [h3, nI_add]
    by_cases h5 : a + nZ F s ≤ len
    · rw [if_pos h5, if_pos (nI_le h5 (by omega)), eRw_m hl t _ (fun x hx => h x (List.mem_cons_of_mem _ hx)) h5]
    · rw [if_neg h5, if_neg (nI_ge (by omega) (by omega))]
def eLk (G : zF) (c a d r : Nat) : zF := zup (zup (zup (zup G 44 0 (nI c)) 44 1 (nI a)) 44 2 (nI d)) 44 3 (nI r)
theorem eLk_o (G : zF) (c a d r : Nat) {k : Nat} (h : k ≠ 44) : eLk G c a d r k = G k := by
  unfold eLk
  rw [zup_ne _ _ _ h, zup_ne _ _ _ h, zup_ne _ _ _ h, zup_ne _ _ _ h]
theorem eLk_0 (G : zF) (c a d r : Nat) : eLk G c a d r 44 0 = nI c := by simp [eLk, zup]
theorem eLk_1 (G : zF) (c a d r : Nat) : eLk G c a d r 44 1 = nI a := by simp [eLk, zup]
theorem eLk_2 (G : zF) (c a d r : Nat) : eLk G c a d r 44 2 = nI d := by simp [eLk, zup]
theorem eLk_3 (G : zF) (c a d r : Nat) : eLk G c a d r 44 3 = nI r := by simp [eLk, zup]
theorem eLk_s (G : zF) (c a d r : Nat) (v0 v1 v2 v3 : Int32) : zup (zup (zup (zup (eLk G c a d r) 44 0 v0) 44 1 v1) 44 2 v2) 44 3 v3 = zup (zup (zup (zup G 44 0 v0) 44 1 v1) 44 2 v2) 44 3 v3 := by
  funext x y
  unfold eLk zup
  by_cases hx : x = 44
  · simp only [hx, if_true]
    by_cases h3 : y = 3
    · simp only [h3, if_true]
    · by_cases h2 : y = 2
      · subst h2; simp
      · by_cases h1 : y = 1
        · subst h1; simp
        · by_cases h0 : y = 0
          · subst h0; simp
          · simp [h0, h1, h2, h3]
  · simp only [hx, if_false]
theorem eLk1 {G F : zF} {c a d r s : Nat} (hs : s < 16) (h : G 27 s = nI (nZ F s) ∧ G 29 s = nI (nD F s) ∧ G 31 s = nI (nK F s)) (hd : d < 2 ^ 31) (hd2 : nD F s < 2 ^ 31) (hr : r < 2 ^ 31) (hr2 : nK F s < 2 ^ 31) : qLk1 (eLk G c a d r) (nI s) = eLk G (c + 1) (a + nZ F s) (max d (nD F s)) (min r (nK F s)) := by
  have z : ∀ j, j ≠ 44 → zrd 16 (eLk G c a d r j) (nI s) = G j s := fun j hj => by rw [eLk_o _ _ _ _ _ hj]; exact zrd_k _ hs (by decide)
  unfold qLk1
  rw [show qSz (eLk G c a d r) (nI s) = nI (nZ F s) from (z 27 (by decide)).trans h.1, show qDr (eLk G c a d r) (nI s) = nI (nD F s) from (z 29 (by decide)).trans h.2.1, show qRk (eLk G c a d r) (nI s) = nI (nK F s) from (z 31 (by decide)).trans h.2.2]
  rw [eLk_0, eLk_1, eLk_2, eLk_3, nI_1, nI_add, eMaxI hd hd2, eMinI hr hr2, eLk_s]
  rfl
theorem eLok {G F : zF} {len : Nat} (hl : len ≤ 9) : ∀ (f : Nat) (L : List Nat) (c a d r : Nat), eChn G L → L.length ≤ f → (∀ x, x ∈ L → (G 27 x = nI (nZ F x) ∧ G 29 x = nI (nD F x) ∧ G 31 x = nI (nK F x)) ∧ nZ F x ≤ 9 ∧ nD F x ≤ 99 ∧ nK F x ≤ 3) → a ≤ len → d ≤ 99 → r ≤ 3 →
    qLok (nI len) f (eLk G c a d r) (eHd L) = eLk G (c + (eRw F len L a).length) (eSum F (eRw F len L a) a) (eMaD F (eRw F len L a) d) (eMiK F (eRw F len L a) r)
  | 0, [], c, a, d, r, _, _, _, _, _, _ => rfl
  | 0, x :: t, _, _, _, _, _, h, _, _, _, _ => absurd h (by simp)
  | f + 1, [], c, a, d, r, _, _, _, _, _, _ => by
    unfold qLok
    rw [if_pos (show eHd [] = -1 from rfl)]
    rfl
  | f + 1, x :: t, c, a, d, r, hc, h, hx, ha, hd, hr => by
    obtain ⟨h1, h2, h3, h4⟩ := hx x List.mem_cons_self
    have e0 : qSz (eLk G c a d r) (eHd (x :: t)) = nI (nZ F x) := by
      show zrd 16 (eLk G c a d r 27) (nI x) = _
      rw [eLk_o _ _ _ _ _ (by decide), zrd_k _ hc.1 (by decide)]
      exact h1.1
    have e2 : qNx (eLk G c a d r) (eHd (x :: t)) = eHd t := eNx_k (eChn_c _ (fun y _ => by rw [eLk_o _ _ _ _ _ (by decide)]) hc)
    have hxa := hc.1
    unfold qLok eRw
    rw [if_neg (eHd_m hc.1), eLk_1, e0, nI_add, e2]
    by_cases h5 : a + nZ F x ≤ len
    · rw [if_pos h5, if_neg (nI_nlt h5 (by omega)), show eHd (x :: t) = nI x from rfl, eLk1 hc.1 h1 (by omega) (by omega) (by omega) (by omega), eLok hl f t _ _ _ _ hc.2.2 (by simpa using h) (fun y hy => hx y (List.mem_cons_of_mem _ hy)) h5 (by omega) (by omega), List.length_cons]
      show eLk G (c + 1 + _) _ _ _ = eLk G (c + (_ + 1)) _ _ _
      rw [show ∀ q : Nat, c + 1 + q = c + (q + 1) by intro q; omega]
      rfl
    · rw [if_neg h5, if_pos (nI_lt (by omega) (by omega))]
      rfl
theorem mRlN {F : zF} {h k low : Nat} (hlow : low < 2 ^ 30) : ∀ (R : List Nat) (a d r : Nat) (z : Int32), (∀ x, x ∈ R → mOf F x 0 = nI (nZ F x) ∧ mOf F x 1 = nI (nD F x) ∧ mOf F x 2 = nI (nK F x) ∧ nD F x ≤ 99 ∧ nK F x ≤ 3) → d ≤ low → r ≤ 3 → (r < 3 → z = 0) →
    mRl F h k (nI low) R (nI a) z = if low < eMaD F R d then 2 else mRf F h k (nI (eSum F R a)) (if eMiK F R r < 3 then 0 else z)
  | [], a, d, r, z, _, hd, hr, hz => by
    show mRf F h k (nI a) z = if low < d then 2 else mRf F h k (nI a) (if r < 3 then 0 else z)
    rw [if_neg (by omega)]
    by_cases h1 : r < 3
    · rw [if_pos h1, hz h1]
    · rw [if_neg h1]
  | s :: t, a, d, r, z, hx, hd, hr, hz => by
    obtain ⟨h1, h2, h3, h4, h5⟩ := hx s List.mem_cons_self
    have hg := eMaD_ge F t (max d (nD F s))
    show (if nI low < mOf F s 1 then 2 else mRl F h k (nI low) t (nI a + mOf F s 0) (if mOf F s 2 < 3 then 0 else z)) = if low < eMaD F t (max d (nD F s)) then 2 else mRf F h k (nI (eSum F t (a + nZ F s))) (if eMiK F t (min r (nK F s)) < 3 then 0 else z)
    rw [h1, h2, h3, nI_add]
    by_cases h6 : low < nD F s
    · rw [if_pos (nI_lt h6 (by omega)), if_pos (by omega)]
    · rw [if_neg (nI_nlt (by omega) (by omega))]
      rw [mRlN hlow t (a + nZ F s) (max d (nD F s)) (min r (nK F s)) (if nI (nK F s) < 3 then 0 else z) (fun x hx2 => hx x (List.mem_cons_of_mem _ hx2)) (by omega) (by omega) (fun h7 => ?_)]
      · by_cases h8 : low < eMaD F t (max d (nD F s))
        · rw [if_pos h8, if_pos h8]
        · rw [if_neg h8, if_neg h8]
          by_cases h9 : eMiK F t (min r (nK F s)) < 3
          · rw [if_pos h9, if_pos h9]
          · rw [if_neg h9, if_neg h9, if_neg]
            have := eMiK_le F t (min r (nK F s))
            exact nI_nlt (b := 3) (by omega) (by omega)
      · by_cases h8 : nK F s < 3
        · rw [if_pos (show nI (nK F s) < 3 from nI_lt (b := 3) h8 (by decide))]
        · rw [if_neg (show ¬ nI (nK F s) < 3 from nI_nlt (b := 3) (by omega) (by omega))]
          exact hz (by omega)
theorem eLook {G F : zF} {n m T : Nat} {cv : Nat → List Nat} (hn : n ≤ 16) (h : eCv G (F 1) n cv) (h2 : eSh G (F 1) n m T) {a len : Nat} (ha : a < n) (hh : eHd (cv a) = nI a) (hl : len ≤ 9) :
    qLook G (nI a) (nI len) = eLk G (eRw F len (cv a) 0).length (eSum F (eRw F len (cv a) 0) 0) (eMaD F (eRw F len (cv a) 0) 0) (eMiK F (eRw F len (cv a) 0) 3) := by
  have h3 := h.2 a ha
  have hlt : ∀ x, x ∈ cv a → x < n := fun x hx => by
    obtain ⟨i, hi⟩ := List.mem_iff_getElem?.mp hx
    exact (h3.2.2.1 i x hi).1
  have h4 := eLok (G := G) (F := F) hl 16 (cv a) 0 0 0 3 h3.1.1 (eCv_len hn h ha) (fun x hx => by
    obtain ⟨⟨q1, q2, q3, q4, q5, q6, q7, q8, q9, q10⟩, r1, r2, r3, r4⟩ := eNat h2 (hlt x hx)
    exact ⟨⟨r1, r2, r3⟩, q3, q6, q8⟩) (Nat.zero_le _) (by decide) (by decide)
  rw [Nat.zero_add] at h4
  rw [← h4, hh]
  rfl
end ZE4
