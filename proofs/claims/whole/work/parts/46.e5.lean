/-! THE PURE PART: the rules of both sides -/
section ZE5
set_option maxRecDepth 20000
theorem eLev_c {G H : zF} (h3 : H 3 = G 3) (h7 : H 7 = G 7) (i : Int32) : qLev H i = qLev G i := by
  unfold qLev
  simp only [qA, qW, h3, h7]
theorem eDry_c {G H : zF} (h3 : H 3 = G 3) (h5 : H 5 = G 5) (h7 : H 7 = G 7) (i : Int32) : qDry H i = qDry G i := by
  unfold qDry qLack
  simp only [qA, qN, qW, h3, h5, h7]
/-- a ship that waits at lock k -/
theorem eAt {G F : zF} {n m T s k : Nat} (h : eSh G (F 1) n m T) (hm : m ≤ 5) (hs : s < n) (h35 : G 35 s = nI k) (hk : k < 2 ^ 30) : k + 1 < m ∧ mOf F s 4 = nI (k + nU F s) ∧ mNx F s = nI (k + 1 - nU F s) ∧ mLk F s = nI k ∧ ¬ mOf F s 4 < 0 ∧ ∃ x, x ≤ T ∧ G 37 s = nI x ∧ mOf F s 5 = nI x := by
  have hu := (eNat h hs).1.2.2.2.2.2.2.2.2
  obtain ⟨⟨e1, e2, e3, e4, e5⟩, z, d, r, u, h1, ⟨h2, h3, h4, h5⟩, h6⟩ := h s hs
  rcases h6 with ⟨h6, h7⟩ | ⟨k', x, h6, h7, h8, h9, h10, h11⟩
  · exact absurd (h35.symm.trans h7) (nI_nm (by omega))
  · have hkk := (nI_eq (by omega) (by omega)).mp (h35.symm.trans h7)
    subst hkk
    have huu : nU F s = u := by
      have := (nI_eq (by omega) (by omega)).mp (hu.1.symm.trans h5)
      exact this
    rw [huu]
    have g4 : mOf F s 4 = nI (k + u) := h8
    have g3 : mOf F s 3 = nI u := h5
    refine ⟨h6, g4, ?_, ?_, ?_, x, h10, h9.trans h11, h11⟩
    · unfold mNx
      rw [g4, g3]
      by_cases hu1 : u = 1
      · subst hu1
        rw [if_pos (show nI 1 = 1 from rfl), nI_m1 (by omega)]
      · have hu0 : u = 0 := by omega
        subst hu0
        rw [if_neg (show ¬ nI 0 = 1 by decide), nI_1]
        rfl
    · unfold mLk
      rw [g4, g3, if_neg (nI_pos (by omega))]
      by_cases hu1 : u = 1
      · subst hu1
        rw [if_pos (show nI 1 = 1 from rfl), nI_m1 (by omega)]
        rfl
      · have hu0 : u = 0 := by omega
        subst hu0
        rw [if_neg (show ¬ nI 0 = 1 by decide)]
        rfl
    · rw [g4]
      exact nI_pos (by omega)
theorem eFin {d a l w g r : Int32} : (if (d = 2 ∧ r < 3) ∨ (d ≠ 2 ∧ d = 1 ∧ a < l ∧ (if w < g then (0 : Int32) else 1) = 0) then (3 : Int32) else 0) = if d = 1 ∧ a < l ∧ w < g then 3 else if d = 2 ∧ (if r < 3 then (0 : Int32) else 1) = 0 then 3 else 0 := by
  have h12 : ¬ ((2 : Int32) = 1) := by decide
  have h10 : ¬ ((1 : Int32) = 0) := by decide
  by_cases h1 : d = 2
  · subst h1
    by_cases h2 : r < 3 <;> simp [h2, h12, h10]
  · by_cases h2 : w < g <;> simp [h1, h2, h10]
theorem eRules {G F : zF} {n m t T B : Nat} {cv : Nat → List Nat} (hC : eC G (F 1) n m t T B cv) (hB : B < 2 ^ 29) {a k : Nat} (ha : a < n) (hh : eHd (cv a) = nI a) (hk : k < 2 ^ 30) (h35 : G 35 a = nI k) :
    qHR G (qLook G (nI a) (qLen G (nI k))) (nI a) (nI k) = mWr F a k (cv a) ∧ qLook G (nI a) (qLen G (nI k)) 44 0 = nI (mRow F k (cv a)).length := by
  obtain ⟨h1, h2, h3, h6, h7⟩ := hC
  obtain ⟨⟨hn, hm, hnm, ht⟩, ⟨s0, s1, s2, s3, s4, s5⟩, ⟨p4, p5, p6, p7, p8, p9, p10, p11⟩, -, -, -⟩ := h1
  obtain ⟨hkm, a4, aN, aL, a0, x, hx, x1, x2⟩ := eAt h6 hm ha h35 hk
  obtain ⟨l1, l2, l3, l4, l5, l6, len, c, nb, f, b, lb, ⟨lk0, lk1, lk2, lk3, lk4⟩, lk5, lk6⟩ := eLo_v h3 hm hkm
  have hu := (eNat h6 ha).1.2.2.2.2.2.2.2.2.2
  have hlt : ∀ x, x ∈ cv a → x < n := fun x hx => by
    obtain ⟨i, hi⟩ := List.mem_iff_getElem?.mp hx
    exact ((h7.2 a ha).2.2.1 i x hi).1
  have hr : mRow F k (cv a) = eRw F len (cv a) 0 := by
    unfold mRow
    rw [lk0]
    exact eRw_m (by omega) (cv a) 0 (fun x hx => by
      obtain ⟨q1, q2⟩ := eNat h6 (hlt x hx)
      exact ⟨q1.1, q1.2.2.1⟩) (Nat.zero_le _)
  have hlk := eLook hn h7 h6 (len := len) ha hh (by omega)
  rw [← lk0, ← l1] at hlk
  have hR : ∀ x, x ∈ eRw F len (cv a) 0 → x ∈ cv a := fun x hx => mRw_sub F (mLP F k 0) (cv a) 0 x (by rw [← hr] at hx; exact hx)
  have hrl : (eRw F len (cv a) 0).length ≤ 16 := by
    have e1 := mRw_len F (mLP F k 0) (cv a) 0
    have e2 := eCv_len hn h7 ha
    have e3 : (mRw F (mLP F k 0) (cv a) 0).length = (eRw F len (cv a) 0).length := by rw [← hr]; rfl
    omega
  refine ⟨?_, by rw [hlk, eLk_0, hr]⟩
  rw [hlk]
  obtain ⟨v1, w1, w2, w3, -, -, v2⟩ := eLev h2 hm (by omega) (r := k) (by omega)
  obtain ⟨v3, w4, w5, w6, -, -, v4⟩ := eLev h2 hm (by omega) (r := k + 1) (by omega)
  have d1 := Nat.div_le_self w2 w1
  have d2 := Nat.div_le_self w5 w4
  have dr := eDry h2 hm hB (r := k) (by omega)
  unfold mWr mRu
  rw [a4, aN, nI_clamp (by omega), nI_clamp (by omega), hr]
  have hlow : imin (mLev F (k + nU F a)) (mLev F (k + 1 - nU F a)) = nI (min (w2 / w1) (w5 / w4)) := by
    by_cases hu1 : nU F a = 1
    · rw [hu1, Nat.add_sub_cancel, v2, v4, eMinI (by omega) (by omega), Nat.min_comm]
    · rw [show nU F a = 0 by omega, Nat.add_zero, Nat.sub_zero, v2, v4, eMinI (by omega) (by omega)]
  have hwt : ∀ c a b d, qWt (eLk G c a b d) (nI a) = qWt G (nI a) := fun c a b d => by
    unfold qWt qSi
    rw [eLk_o _ _ _ _ _ (by decide), eLk_o _ _ _ _ _ (by decide)]
  have hwd : ∀ e1 e2 e3 e4, qWt (eLk G e1 e2 e3 e4) (nI a) = mWd F a := fun e1 e2 e3 e4 => by
    unfold qWt mWd
    rw [if_neg a0, eLk_o _ _ _ _ _ (by decide), p7]
    show F 1 0 - zrd 16 (eLk G e1 e2 e3 e4 37) (nI a) = _
    rw [eLk_o _ _ _ _ _ (by decide), zrd_k _ (by omega) (by decide), x1, x2]
  unfold qHR
  rw [eLk_0, eLk_2, hwd, eLk_o _ _ _ _ _ (show 0 ≠ 44 by decide), p5, l1, lk0, eDry_c (eLk_o _ _ _ _ _ (by decide)) (eLk_o _ _ _ _ _ (by decide)) (eLk_o _ _ _ _ _ (by decide)), dr, eLev_c (eLk_o _ _ _ _ _ (by decide)) (eLk_o _ _ _ _ _ (by decide)), eLev_c (eLk_o _ _ _ _ _ (by decide)) (eLk_o _ _ _ _ _ (by decide)), v1, nI_1, v3, v2, v4]
  unfold qHb
  rw [eLk_1, eLk_3]
  have hsum := eSum_le F len (cv a) 0 (Nat.zero_le _)
  have hxx : ∀ x, x ∈ eRw F len (cv a) 0 → mOf F x 0 = nI (nZ F x) ∧ mOf F x 1 = nI (nD F x) ∧ mOf F x 2 = nI (nK F x) ∧ nD F x ≤ 99 ∧ nK F x ≤ 3 := fun x hx => by
    obtain ⟨⟨q1, q2, q3, q4, q5, q6, q7, q8, q9, q10⟩, -⟩ := eNat h6 (hlt x (hR x hx))
    exact ⟨q1, q4, q7, q6, q8⟩
  have hmd := eMaD_le F 99 _ 0 (fun x hx => (hxx x hx).2.2.2.1) (by decide)
  have hmk := eMiK_le F (eRw F len (cv a) 0) 3
  have hrn := mRlN (F := F) (h := a) (k := k) (low := min (w2 / w1) (w5 / w4)) (by omega) (eRw F len (cv a) 0) 0 0 3 1 hxx (Nat.zero_le _) (by decide) (fun h => absurd h (by decide))
  cases hRR : eRw F len (cv a) 0 with
  | nil => rw [if_pos (show nI ([] : List Nat).length = 0 from rfl)]
  | cons s u =>
    rw [hRR] at hsum hmd hmk hrn hrl
    rw [if_neg (nI_ne0 (by simp) (by omega))]
    dsimp only
    rw [hlow, show (0 : Int32) = nI 0 from rfl, hrn]
    by_cases hd : min (w2 / w1) (w5 / w4) < eMaD F (s :: u) 0
    · rw [if_pos hd, if_pos]
      by_cases hd2 : w2 / w1 < eMaD F (s :: u) 0
      · exact Or.inl (nI_lt hd2 (by omega))
      · exact Or.inr (nI_lt (by omega) (by omega))
    · rw [if_neg hd, if_neg (fun hd2 => hd2.elim (nI_nlt (by omega) (by omega)) (nI_nlt (by omega) (by omega)))]
      unfold mRf
      rw [lk0, show (2 : Int32) = nI 2 from rfl, nI_mulc]
      have y3 : (if eMiK F (s :: u) 3 < 3 then (nI 0) else 1) = if nI (eMiK F (s :: u) 3) < 3 then 0 else 1 := by
        by_cases y4 : eMiK F (s :: u) 3 < 3
        · rw [if_pos y4, if_pos (show nI (eMiK F (s :: u) 3) < 3 from nI_lt (b := 3) y4 (by decide))]
          rfl
        · rw [if_neg y4, if_neg (show ¬ nI (eMiK F (s :: u) 3) < 3 from nI_nlt (b := 3) (by omega) (by omega))]
      rw [show (if eMiK F (s :: u) 3 < 3 then (0 : Int32) else 1) = _ from y3]
      exact eFin
end ZE5
