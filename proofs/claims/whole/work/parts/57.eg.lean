/-! THE PURE PART: inflow and spills -/
section ZEg
set_option maxRecDepth 20000
theorem eInC {G F : zF} {n m t T B : Nat} {cv : Nat → List Nat} (hC : eC G (F 1) n m t T B cv) (hm2 : 1 ≤ m) (hB : B + 99 < 2 ^ 29) : eC (qIn G) (mInf F 1) n m t T (B + 99) cv := by
  obtain ⟨h1, h2, h3, h6, h7⟩ := hC
  have h1' := h1
  obtain ⟨⟨hn, hm, hnm, ht⟩, ⟨s0, s1, s2, s3, s4, s5⟩, ⟨p4, p5, p6, p7, p8, p9, p10, p11⟩, k1, k2, ⟨y, y1, y2⟩⟩ := h1
  obtain ⟨⟨e1, e2, e3⟩, a, l, w, g1, g2, g3, g4, g5, g6, g7, g8⟩ := h2.1 0 (by omega)
  have hW : qW G 0 = nI w := (zrd_k (n := 5) (k := 0) _ (by decide) (by decide)).trans (e3.trans g8)
  have hq : qIn G = zup (zup G 0 8 (G 0 8 + nI y)) 7 0 (nI (w + y)) := by
    unfold qIn
    rw [hW, p6, y2, nI_add]
    exact zwr_k (n := 5) (k := 0) _ _ _ (by decide) (by decide)
  have hM : ∀ i, i ≠ 12 → i ≠ 6 → mInf F 1 i = F 1 i := fun i q1 q2 => by
    unfold mInf
    rw [zup_an _ _ _ q2, zup_an _ _ _ q1]
  have hM6 : mInf F 1 6 = F 1 6 + nI y := by
    unfold mInf
    rw [zup_at, y2]
  have hM12 : mInf F 1 12 = nI (w + y) := by
    unfold mInf
    rw [zup_an _ _ _ (by decide), zup_at, y2, show F 1 12 = nI w from g8, nI_add]
  have hc : ∀ c, c ≠ 0 → c ≠ 7 → qIn G c = G c := fun c q1 q2 => by rw [hq, zup_ne _ _ _ q2, zup_ne _ _ _ q1]
  have h0 : ∀ i, i ≠ 8 → qIn G 0 i = G 0 i := fun i q => by rw [hq, zup_ne _ _ _ (by decide), zup_an _ _ _ q]
  have h08 : qIn G 0 8 = G 0 8 + nI y := by rw [hq, zup_ne _ _ _ (by decide), zup_at]
  refine ⟨?_, ?_, ?_, ?_, ?_⟩
  · unfold eS
    rw [hM 0 (by decide) (by decide), hM 1 (by decide) (by decide), hM 2 (by decide) (by decide), hM 3 (by decide) (by decide), hM 4 (by decide) (by decide), hM 5 (by decide) (by decide), hM 7 (by decide) (by decide), hM 8 (by decide) (by decide), hM 9 (by decide) (by decide), hM6, hc 1 (by decide) (by decide), hc 25 (by decide) (by decide), hc 8 (by decide) (by decide), h0 4 (by decide), h0 5 (by decide), h0 6 (by decide), h0 7 (by decide), h0 9 (by decide), h0 10 (by decide), h08, p8]
    exact ⟨⟨hn, hm, hnm, ht⟩, ⟨s0, s1, s2, s3, s4, s5⟩, ⟨p4, p5, p6, p7, rfl, p9, p10, p11⟩, k1, k2, y, y1, y2⟩
  · refine eRe_w (r0 := 0) (v := w + y) h2 hm (by omega) (by omega) (by omega) (hc 3 (by decide) (by decide)) (hc 5 (by decide) (by decide)) ?_ (fun r hr => ?_) hM12 (fun i q1 q2 q3 => hM i q3 (by omega))
    · rw [hq, zup_at]
    · rw [hq, zup_an _ _ _ hr, zup_ne _ _ _ (by decide)]
  · refine ⟨fun k hk => ?_, fun k q1 q2 => ?_⟩
    · have q := h3.1 k hk
      unfold eLo1 eP at *
      rw [hc 10 (by decide) (by decide), hc 12 (by decide) (by decide), hc 14 (by decide) (by decide), hc 16 (by decide) (by decide), hc 18 (by decide) (by decide), hc 20 (by decide) (by decide), hc 22 (by decide) (by decide), hc 24 (by decide) (by decide), hM (25 + 7 * k + 0) (by omega) (by omega), hM (25 + 7 * k + 1) (by omega) (by omega), hM (25 + 7 * k + 2) (by omega) (by omega), hM (25 + 7 * k + 3) (by omega) (by omega), hM (25 + 7 * k + 4) (by omega) (by omega), hM (25 + 7 * k + 5) (by omega) (by omega), hM (25 + 7 * k + 6) (by omega) (by omega)]
      exact q
    · rw [hc 18 (by decide) (by decide), hc 20 (by decide) (by decide), hc 22 (by decide) (by decide), hc 24 (by decide) (by decide)]
      exact h3.2 k q1 q2
  · exact eSh_o (fun c hc1 hc2 => hc c (by omega) (by omega)) (fun i hi => hM i (by omega) (by omega)) h6
  · exact eCv_o (fun c hc1 hc2 => hc c (by omega) (by omega)) (fun i hi => hM i (by omega) (by omega)) h7
theorem mSl_ne (G : zF) (m r : Nat) {c : Nat} (hc : c ≠ 1) : mSl G m r c = G c := by
  unfold mSl
  split
  · rfl
  · split
    · rw [zup_ne _ _ _ hc, zup_ne _ _ _ hc]
    · rw [zup_ne _ _ _ hc, zup_ne _ _ _ hc]
theorem mSls_ne (G : zF) (m : Nat) {c : Nat} (hc : c ≠ 1) : ∀ r, mSls G m r c = G c
  | 0 => rfl
  | r + 1 => (mSl_ne _ m r hc).trans (mSls_ne G m hc r)
/-- behind j reaches -/
def eSpI (G F : zF) (m B j : Nat) (H N : zF) (c : Int32) : Prop :=
  (∀ c, c ≠ 7 → H c = G c) ∧ (∀ i, i < 10 → i ≠ 7 → N 1 i = F 1 i) ∧ (∀ i, 25 ≤ i → N 1 i = F 1 i) ∧ (∀ r, r < 5 → N 1 (10 + 3 * r) = F 1 (10 + 3 * r) ∧ N 1 (10 + 3 * r + 1) = F 1 (10 + 3 * r + 1)) ∧
  (∀ r, r < j → ∃ w, w ≤ 900 ∧ H 7 r = nI w ∧ N 1 (10 + 3 * r + 2) = nI w) ∧ (∀ r, j < r → r < m → ∃ w, w ≤ B ∧ H 7 r = nI w ∧ N 1 (10 + 3 * r + 2) = nI w) ∧
  (∃ x, x ≤ B * j ∧ c = nI x ∧ (j < m → (∃ w, w ≤ B ∧ H 7 j = nI w ∧ N 1 (10 + 3 * j + 2) = nI (w + x)) ∧ N 1 7 = F 1 7) ∧ (j = m → N 1 7 = F 1 7 + nI x)) ∧ ∀ r, m ≤ r → r < 5 → H 7 r = G 7 r
theorem eSpS {G F : zF} {m B : Nat} (h : eRe G (F 1) m B) (hm : m ≤ 5) (hB : B ≤ 100000) : ∀ j, j ≤ m → eSpI G F m B j (qSp G j).1 (mSls F m j) (qSp G j).2
  | 0, _ => by
    refine ⟨fun c _ => rfl, fun i _ _ => rfl, fun i _ => rfl, fun r _ => ⟨rfl, rfl⟩, fun r hr => absurd hr (Nat.not_lt_zero r), fun r _ hr => ?_, ⟨0, by omega, rfl, fun hr => ⟨?_, rfl⟩, fun _ => ?_⟩, fun r _ _ => rfl⟩
    · obtain ⟨⟨e1, e2, e3⟩, a, l, w, g1, g2, g3, g4, g5, g6, g7, g8⟩ := h.1 r hr
      exact ⟨w, g5, e3.trans g8, g8⟩
    · obtain ⟨⟨e1, e2, e3⟩, a, l, w, g1, g2, g3, g4, g5, g6, g7, g8⟩ := h.1 0 hr
      exact ⟨w, g5, e3.trans g8, g8⟩
    · exact (Int32.add_zero _).symm
  | j + 1, hj => by
    obtain ⟨i1, i2, i3, i4, i5, i6, ⟨x, x1, x2, x3, -⟩, i8⟩ := eSpS h hm hB j (by omega)
    obtain ⟨⟨w, w1, w2, w3⟩, w4⟩ := x3 (by omega)
    obtain ⟨⟨e1, e2, e3⟩, a, l, w0, g1, g2, g3, g4, g5, g6, g7, g8⟩ := h.1 j (by omega)
    have hBj : B * j ≤ B * 4 := Nat.mul_le_mul_left _ (by omega)
    have hBj1 : B * (j + 1) = B * j + B := Nat.mul_succ B j
    have hal : a * l ≤ 9 * 99 := Nat.mul_le_mul g2 g4
    show eSpI G F m B (j + 1) (qSp1 (qSp G j).1 (qSp G j).2 (nI j)).1 (mSl (mSls F m j) m j) (qSp1 (qSp G j).1 (qSp G j).2 (nI j)).2
    generalize hHe : (qSp G j).1 = H at i1 i5 i6 w2 i8 ⊢
    generalize hce : (qSp G j).2 = c at x2 ⊢
    generalize hNe : mSls F m j = N at i2 i3 i4 i5 i6 w3 w4 ⊢
    have hH1 : zwr 5 H 7 (nI j) (qW H (nI j) + c) = zup H 7 j (nI (w + x)) := by
      rw [zwr_k _ _ _ (by omega) (by decide), show qW H (nI j) = nI w from (zrd_k _ (by omega) (by decide)).trans w2, x2, nI_add]
    have hA : qA (zup H 7 j (nI (w + x))) (nI j) = nI a := by
      rw [show qA (zup H 7 j (nI (w + x))) (nI j) = (zup H 7 j (nI (w + x))) 3 j from zrd_k _ (by omega) (by decide), zup_ne _ _ _ (by decide), i1 3 (by decide)]
      exact e1.trans g6
    have hL : qN (zup H 7 j (nI (w + x))) (nI j) = nI l := by
      rw [show qN (zup H 7 j (nI (w + x))) (nI j) = (zup H 7 j (nI (w + x))) 5 j from zrd_k _ (by omega) (by decide), zup_ne _ _ _ (by decide), i1 5 (by decide)]
      exact e2.trans g7
    have hW : qW (zup H 7 j (nI (w + x))) (nI j) = nI (w + x) := by
      rw [show qW (zup H 7 j (nI (w + x))) (nI j) = (zup H 7 j (nI (w + x))) 7 j from zrd_k _ (by omega) (by decide), zup_at]
    have hdv : (w + x) / a ≤ w + x := Nat.div_le_self _ _
    have hLv : qLev (zup H 7 j (nI (w + x))) (nI j) = nI ((w + x) / a) := by
      unfold qLev
      rw [hA, hW, if_neg (show ¬ nI a < 1 from nI_nlt (b := 1) g1 (by omega)), nI_divc (by omega) (by omega)]
    have hmL : mLev N j = nI ((w + x) / a) := by
      unfold mLev mWa
      rw [w3, (i4 j (by omega)).1, g6, nI_divc (by omega) (by omega)]
    have hN1 : N 1 (10 + 3 * j + 1) = nI l := (i4 j (by omega)).2.trans g7
    have hN0 : N 1 (10 + 3 * j) = nI a := (i4 j (by omega)).1.trans g6
    unfold qSp1 mSl
    rw [hH1, hL, hLv, hmL, hN1]
    by_cases hs : l < (w + x) / a
    · have hge : a * l ≤ w + x := by
        have q1 : l * a ≤ w + x := (Nat.le_div_iff_mul_le (by omega)).mp (by omega)
        rw [Nat.mul_comm]
        exact q1
      rw [if_pos (nI_lt hs (by omega)), if_neg (nI_ge hs (by omega)), hW, hA, w3, hN0, nI_mulc, nI_subc hge]
      have hv : nI (w + x) + -nI (w + x - a * l) = nI (a * l) := by
        rw [Int32.add_neg_eq_sub, nI_subc (by omega), show w + x - (w + x - a * l) = a * l by omega]
      have hv2 : nI (w + x) - nI (w + x - a * l) = nI (a * l) := by
        rw [nI_subc (by omega), show w + x - (w + x - a * l) = a * l by omega]
      rw [hv, hv2, zwr_k _ _ _ (by omega) (by decide)]
      dsimp only
      have hHo : ∀ c, c ≠ 7 → zup (zup H 7 j (nI (w + x))) 7 j (nI (a * l)) c = G c := fun c q => by rw [zup_ne _ _ _ q, zup_ne _ _ _ q, i1 c q]
      have hH7 : ∀ r, r ≠ j → zup (zup H 7 j (nI (w + x))) 7 j (nI (a * l)) 7 r = H 7 r := fun r q => by rw [zup_an _ _ _ q, zup_an _ _ _ q]
      by_cases hjm : j + 1 = m
      · rw [if_pos hjm]
        refine ⟨hHo, fun i q1 q2 => ?_, fun i q1 => ?_, fun r q1 => ⟨?_, ?_⟩, fun r hr => ?_, fun r q1 q2 => absurd q2 (by omega), ⟨w + x - a * l, by omega, rfl, fun q => absurd q (by omega), fun _ => ?_⟩, fun r q1 q2 => ?_⟩
        · rw [zup_an _ _ _ q2, zup_an _ _ _ (by omega)]
          exact i2 i q1 q2
        · rw [zup_an _ _ _ (by omega), zup_an _ _ _ (by omega)]
          exact i3 i q1
        · rw [zup_an _ _ _ (by omega), zup_an _ _ _ (by omega)]
          exact (i4 r q1).1
        · rw [zup_an _ _ _ (by omega), zup_an _ _ _ (by omega)]
          exact (i4 r q1).2
        · by_cases hrj : r = j
          · subst hrj
            refine ⟨a * l, by omega, zup_at _ _ _ _, ?_⟩
            rw [zup_an _ _ _ (by omega), zup_at]
          · obtain ⟨v, v1, v2, v3⟩ := i5 r (by omega)
            refine ⟨v, v1, (hH7 r hrj).trans v2, ?_⟩
            rw [zup_an _ _ _ (by omega), zup_an _ _ _ (by omega)]
            exact v3
        · rw [zup_at, w4]
        · rw [hH7 r (by omega)]
          exact i8 r q1 q2
      · rw [if_neg hjm]
        obtain ⟨v, v1, v2, v3⟩ := i6 (j + 1) (by omega) (by omega)
        have h5 : 10 + 3 * j + 5 = 10 + 3 * (j + 1) + 2 := by omega
        rw [h5, v3]
        refine ⟨hHo, fun i q1 q2 => ?_, fun i q1 => ?_, fun r q1 => ⟨?_, ?_⟩, fun r hr => ?_, fun r q1 q2 => ?_, ⟨w + x - a * l, by omega, rfl, fun q => ⟨⟨v, v1, (hH7 _ (by omega)).trans v2, ?_⟩, ?_⟩, fun q => absurd q hjm⟩, fun r q1 q2 => ?_⟩
        · rw [zup_an _ _ _ (by omega), zup_an _ _ _ (by omega)]
          exact i2 i q1 q2
        · rw [zup_an _ _ _ (by omega), zup_an _ _ _ (by omega)]
          exact i3 i q1
        · rw [zup_an _ _ _ (by omega), zup_an _ _ _ (by omega)]
          exact (i4 r q1).1
        · rw [zup_an _ _ _ (by omega), zup_an _ _ _ (by omega)]
          exact (i4 r q1).2
        · by_cases hrj : r = j
          · subst hrj
            refine ⟨a * l, by omega, zup_at _ _ _ _, ?_⟩
            rw [zup_an _ _ _ (by omega), zup_at]
          · obtain ⟨v, v1, v2, v3⟩ := i5 r (by omega)
            refine ⟨v, v1, (hH7 r hrj).trans v2, ?_⟩
            rw [zup_an _ _ _ (by omega), zup_an _ _ _ (by omega)]
            exact v3
        · obtain ⟨v, v1, v2, v3⟩ := i6 r (by omega) q2
          refine ⟨v, v1, (hH7 r (by omega)).trans v2, ?_⟩
          rw [zup_an _ _ _ (by omega), zup_an _ _ _ (by omega)]
          exact v3
        · rw [zup_at, nI_add]
        · rw [zup_an _ _ _ (by omega), zup_an _ _ _ (by omega)]
          exact w4
        · rw [hH7 r (by omega)]
          exact i8 r q1 q2
    · rw [if_neg (nI_nlt (by omega) (by omega)), if_pos (nI_le (by omega) (by omega))]
      dsimp only
      have hw9 : w + x ≤ 900 := by
        have q1 : (w + x) / a < l + 1 := by omega
        rw [Nat.div_lt_iff_lt_mul (by omega)] at q1
        have q2 : (l + 1) * a ≤ 100 * 9 := Nat.mul_le_mul (by omega) g2
        omega
      refine ⟨fun c q => by rw [zup_ne _ _ _ q, i1 c q], i2, i3, i4, fun r hr => ?_, fun r q1 q2 => ?_, ⟨0, Nat.zero_le _, rfl, fun q => ⟨?_, w4⟩, fun _ => ?_⟩, fun r q1 q2 => ?_⟩
      · by_cases hrj : r = j
        · subst hrj
          exact ⟨w + x, hw9, zup_at _ _ _ _, w3⟩
        · obtain ⟨v, v1, v2, v3⟩ := i5 r (by omega)
          exact ⟨v, v1, by rw [zup_an _ _ _ hrj]; exact v2, v3⟩
      · obtain ⟨v, v1, v2, v3⟩ := i6 r (by omega) q2
        exact ⟨v, v1, by rw [zup_an _ _ _ (by omega)]; exact v2, v3⟩
      · obtain ⟨v, v1, v2, v3⟩ := i6 (j + 1) (by omega) q
        exact ⟨v, v1, by rw [zup_an _ _ _ (by omega)]; exact v2, v3⟩
      · rw [w4]
        exact (Int32.add_zero _).symm
      · rw [zup_an _ _ _ (by omega)]
        exact i8 r q1 q2
end ZEg
