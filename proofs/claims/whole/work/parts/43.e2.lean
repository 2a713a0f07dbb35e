/-! THE PURE PART: what both sides read of reaches, locks and ships -/
section ZE2
set_option maxRecDepth 20000
theorem eSub_i {x y : Nat} (hx : x < 2 ^ 30) (hy : y < 2 ^ 30) : (nI x - nI y).toInt = (x : Int) - (y : Int) := by
  rw [Int32.toInt_sub, nI_toInt (by omega), nI_toInt (by omega)]
  exact Int.bmod_eq_of_le (by omega) (by omega)
theorem eSub_le {x y k : Nat} (hx : x < 2 ^ 30) (hy : y < 2 ^ 30) (hk : k < 2 ^ 30) : nI x - nI y ≤ nI k ↔ x ≤ y + k := by
  rw [Int32.le_iff_toInt_le, eSub_i hx hy, nI_toInt (by omega)]
  omega
theorem eSub_0 {x y : Nat} (hx : x < 2 ^ 30) (hy : y < 2 ^ 30) : 0 < nI x - nI y ↔ y < x := by
  rw [Int32.lt_iff_toInt_lt, eSub_i hx hy, show (0 : Int32).toInt = 0 from rfl]
  omega
theorem eSub_e {x y : Nat} (hx : x < 2 ^ 30) (hy : y < 2 ^ 30) : nI x - nI y = 0 ↔ x = y := by
  rw [← Int32.toInt_inj, eSub_i hx hy, show (0 : Int32).toInt = 0 from rfl]
  omega
theorem eLev {G F : zF} {m B r : Nat} (h : eRe G (F 1) m B) (hm : m ≤ 5) (hB : B < 2 ^ 30) (hr : r < m) : qLev G (nI r) = mLev F r ∧ ∃ a w, (1 ≤ a ∧ a ≤ 9 ∧ w ≤ B) ∧ F 1 (10 + 3 * r) = nI a ∧ mWa F r = nI w ∧ mLev F r = nI (w / a) := by
  obtain ⟨⟨e1, e2, e3⟩, a, l, w, h1, h2, h3, h4, h5, h6, h7, h8⟩ := h.1 r hr
  have g1 : qA G (nI r) = nI a := (zrd_k _ (by omega) (by decide)).trans (e1.trans h6)
  have g3 : qW G (nI r) = nI w := (zrd_k _ (by omega) (by decide)).trans (e3.trans h8)
  have g4 : mLev F r = nI (w / a) := by
    unfold mLev mWa
    rw [show F 1 (10 + 3 * r + 2) = nI w from h8, h6]
    exact nI_divc (by omega) (by omega)
  refine ⟨?_, a, w, ⟨h1, h2, h5⟩, h6, h8, g4⟩
  rw [g4]
  unfold qLev
  rw [g1, g3, if_neg]
  · exact nI_divc (by omega) (by omega)
  · show ¬ nI a < nI 1
    rw [nI_ltI (by omega) (by omega)]
    omega
theorem eDry {G F : zF} {m B r : Nat} (h : eRe G (F 1) m B) (hm : m ≤ 5) (hB : B < 2 ^ 29) (hr : r < m) : qDry G (nI r) = mDry F r := by
  obtain ⟨⟨e1, e2, e3⟩, a, l, w, h1, h2, h3, h4, h5, h6, h7, h8⟩ := h.1 r hr
  have g1 : qA G (nI r) = nI a := (zrd_k _ (by omega) (by decide)).trans (e1.trans h6)
  have g2 : qN G (nI r) = nI l := (zrd_k _ (by omega) (by decide)).trans (e2.trans h7)
  have g3 : qW G (nI r) = nI w := (zrd_k _ (by omega) (by decide)).trans (e3.trans h8)
  obtain ⟨-, a', w', ⟨m1, m2, m3⟩, k1, k2, k3⟩ := eLev h hm (by omega) hr
  have k4 : mWa F r = nI w := h8
  have k5 : a' = a ∧ w' = w := by
    rw [h6] at k1
    rw [k4] at k2
    refine ⟨?_, ?_⟩
    · have := (nI_eq (by omega) (by omega)).mp k1
      omega
    · have := (nI_eq (by omega) (by omega)).mp k2
      omega
  obtain ⟨rfl, rfl⟩ := k5
  have hal : a' * l ≤ 9 * 99 := Nat.mul_le_mul h2 h4
  have hwa : w' / a' ≤ w' := Nat.div_le_self _ _
  have key : ∀ k, k ≤ 9 → (a' * l ≤ w' + k * a' ↔ l ≤ w' / a' + k) := by
    intro k hk
    have h9 : l - k ≤ w' / a' ↔ (l - k) * a' ≤ w' := Nat.le_div_iff_mul_le (by omega)
    rw [Nat.sub_mul, Nat.mul_comm l a'] at h9
    omega
  have c : ∀ k, k ≤ 9 → ((qLack G (nI r) ≤ nI k * qA G (nI r)) ↔ F 1 (10 + 3 * r + 1) - mLev F r ≤ nI k) := by
    intro k hk
    have hk9 : k * a' ≤ 9 * 9 := Nat.mul_le_mul hk h2
    unfold qLack
    rw [g1, g2, g3, k3, show F 1 (10 + 3 * r + 1) = nI l from h7, nI_mulc, nI_mulc, eSub_le (by omega) (by omega) (by omega), eSub_le (by omega) (by omega) (by omega)]
    exact key k hk
  have c2 := c 2 (by decide)
  have c6 := c 6 (by decide)
  unfold qDry mDry
  rw [show (2 : Int32) = nI 2 from rfl, show (6 : Int32) = nI 6 from rfl]
  simp only [c2, c6]
theorem eLo_v {G F : zF} {m k : Nat} (h : eLo G (F 1) m) (hm : m ≤ 5) (hk : k + 1 < m) : qLen G (nI k) = mLP F k 0 ∧ qCh G (nI k) = mLP F k 1 ∧ qBa G (nI k) = mLP F k 2 ∧ qFu G (nI k) = mLP F k 3 ∧ zrd 4 (G 22) (nI k) = mLP F k 5 ∧ zrd 4 (G 24) (nI k) = mLP F k 6 ∧
    ∃ len c nb f b, (1 ≤ len ∧ len ≤ 9 ∧ 4 ≤ c ∧ c ≤ 60 ∧ nb ≤ 3 ∧ f ≤ 1 ∧ b < 2 ^ nb) ∧ (mLP F k 0 = nI len ∧ mLP F k 1 = nI c ∧ mLP F k 2 = nI nb ∧ mLP F k 3 = nI f ∧ mLP F k 4 = nI b) ∧ qQu G (nI k) = nI (c / 4) ∧ qFb G (nI k) = nI (mBit b) := by
  obtain ⟨⟨e1, e2, e3, e4, e5, e6⟩, len, c, nb, f, b, h1, h2, h3, h4⟩ := h.1 k hk
  have z : ∀ c, zrd 4 (G c) (nI k) = G c k := fun c => zrd_k _ (by omega) (by decide)
  exact ⟨(z _).trans e1, (z _).trans e2, (z _).trans e3, (z _).trans e4, (z _).trans e5, (z _).trans e6, len, c, nb, f, b, h1, h2, (z _).trans h3, (z _).trans h4⟩
theorem eSh_v {G F : zF} {n m T s : Nat} (h : eSh G (F 1) n m T) (hn : n ≤ 16) (hm : m ≤ 5) (hs : s < n) : qSz G (nI s) = mOf F s 0 ∧ qDr G (nI s) = mOf F s 1 ∧ qRk G (nI s) = mOf F s 2 ∧ qUp G (nI s) = mOf F s 3 ∧ qLf G (nI s) = mOf F s 8 ∧ qWa G (nI s) = mLk F s ∧ qRe G (nI s) = mOf F s 4 ∧ qWa G (nI s) = G 35 s ∧ qSi G (nI s) = G 37 s := by
  obtain ⟨⟨e1, e2, e3, e4, e5⟩, z, d, r, u, h1, ⟨h2, h3, h4, h5⟩, h6⟩ := h s hs
  have zz : ∀ c, zrd 16 (G c) (nI s) = G c s := fun c => zrd_k _ (by omega) (by decide)
  have key : G 35 s = mLk F s ∧ qRe G (nI s) = mOf F s 4 := by
    unfold mLk qRe
    rw [show qWa G (nI s) = G 35 s from zz _, show qUp G (nI s) = nI u from (zz _).trans (e4.trans h5), show mOf F s 3 = nI u from h5]
    rcases h6 with ⟨h6, h7⟩ | ⟨k, x, h6, h7, h8, h9⟩
    · rw [show mOf F s 4 = -1 from h6, h7]
      exact ⟨rfl, rfl⟩
    · have h10 : k < 2 ^ 30 := by omega
      rw [show mOf F s 4 = nI (k + u) from h8, h7, if_neg (nI_pos (by omega)), if_neg (nI_nm (by omega)), nI_add]
      refine ⟨?_, rfl⟩
      by_cases hu : u = 1
      · subst hu
        rw [if_pos (show nI 1 = 1 from rfl), nI_m1 (by omega)]
        rfl
      · rw [if_neg (show ¬ nI u = 1 from fun h => hu ((nI_eq (a := u) (b := 1) (by omega) (by omega)).mp h)), show u = 0 by omega]
        rfl
  exact ⟨(zz _).trans e1, (zz _).trans e2, (zz _).trans e3, (zz _).trans e4, (zz _).trans e5, (zz _).trans key.1, key.2, zz _, zz _⟩
end ZE2
