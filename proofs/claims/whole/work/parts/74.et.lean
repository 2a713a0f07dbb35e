/-! THE PURE PART: meanLocked, addReach -/
section ZEt
set_option maxRecDepth 20000
/-- no quotient of two whole numbers is a NaN, but by 0 -/
abbrev eNoNaN : Prop := ∀ x y : Int32, ¬ y = 0 → vf_n64 (FP.ddiv (FP.i2d x) (FP.i2d y))
/-- the same for a call that answers a double; a b: the numbers whose quotient it is -/
theorem k_meanLocked (hfp : eNoNaN) : ∀ Fc Fm, eBoth Fc Fm → sX8_meanLocked [.ref 495] Fc (fun r Fc' => ∃ x y, r = some (.double (FP.ddiv (FP.i2d x) (FP.i2d y))) ∧ sX9_meanLocked [.ref 0] Fm (fun r' Fm' => r' = some (.double (FP.ddiv (FP.i2d x) (FP.i2d y))) ∧ Fm' 0 0 = 0 ∧ eBoth Fc' Fm') (fun _ _ => False))
    (fun E Fc' => sX9_meanLocked [.ref 0] Fm (fun r' Fm' => (∃ v, r' = some (.double v)) ∧ (Fm' 0 0 = eCd [xR] 1 E ∧ ¬ eCd [xR] 1 E = 0 ∧ E ∈ [xR]) ∧ eBoth Fc' Fm') (fun _ _ => False)) := by
  intro Fc Fm h
  dsimp only [sX8_meanLocked, sX9_meanLocked]
  obtain ⟨n, m, tk, cv, hC⟩ := h.1
  obtain ⟨hS, h2, h3, h6, h7⟩ := hC
  obtain ⟨⟨hn, hm, hnm, ht⟩, ⟨s0, s1, s2, s3, s4, s5⟩, -⟩ := hS
  obtain ⟨g5, g6⟩ := eA7 hm h3
  obtain ⟨-, -, -, -, c7⟩ := mA_c (mT_1 Fm)
  refine ⟨fun c1 => ⟨hfp _ _ c1, _, _, rfl, m, hm, s1, fun q => absurd q ?_, fun q => ⟨?_, ?_, mT_00 _, eBoth_t h 0⟩⟩, fun c1 => ⟨m, hm, s1, fun q => ⟨⟨_, rfl⟩, ⟨by rw [zup_at]; decide, by decide, by simp⟩, eBoth_t (eBoth_t h 0) 1⟩, fun q => absurd ?_ q⟩⟩
  · rw [c7, ← g6]
    exact c1
  · exact hfp _ _ q
  · rw [g5, g6, c7, c7]
  · rw [c7, ← g6]
    exact Classical.not_not.mp c1
theorem mRn_r {F : zF} {r : Nat} (hr : r < 5) (a l n m b : Int32) : (∀ c, c ≠ 1 → mRn F r a l n m b c = F c) ∧ mRn F r a l n m b 1 (10 + 3 * r) = a ∧ mRn F r a l n m b 1 (10 + 3 * r + 1) = l ∧ mRn F r a l n m b 1 (10 + 3 * r + 2) = a * l ∧ mRn F r a l n m b 1 9 = F 1 9 + a * l ∧
    (0 < r → mRn F r a l n m b 1 (25 + 7 * (r - 1)) = n ∧ mRn F r a l n m b 1 (25 + 7 * (r - 1) + 1) = m ∧ mRn F r a l n m b 1 (25 + 7 * (r - 1) + 2) = b ∧ ∀ i, i < 4 → mRn F r a l n m b 1 (25 + 7 * (r - 1) + (3 + i)) = 0) ∧
    ∀ i, i ≠ 9 → i ≠ 10 + 3 * r → i ≠ 10 + 3 * r + 1 → i ≠ 10 + 3 * r + 2 → (0 < r → i < 25 + 7 * (r - 1) ∨ 25 + 7 * (r - 1) + 7 ≤ i) → mRn F r a l n m b 1 i = F 1 i := by
  have h4 : (∀ c, c ≠ 1 → mR4 F r a l c = F c) ∧ mR4 F r a l 1 (10 + 3 * r) = a ∧ mR4 F r a l 1 (10 + 3 * r + 1) = l ∧ mR4 F r a l 1 (10 + 3 * r + 2) = a * l ∧ mR4 F r a l 1 9 = F 1 9 + a * l ∧ ∀ i, i ≠ 9 → i ≠ 10 + 3 * r → i ≠ 10 + 3 * r + 1 → i ≠ 10 + 3 * r + 2 → mR4 F r a l 1 i = F 1 i := by
    unfold mR4 mR3
    refine ⟨fun c hc => ?_, ?_, ?_, ?_, ?_, fun i q1 q2 q3 q4 => ?_⟩
    · rw [zup_ne _ _ _ hc, zup_ne _ _ _ hc, zup_ne _ _ _ hc, zup_ne _ _ _ hc]
    · rw [zup_an _ _ _ (by omega), zup_an _ _ _ (by omega), zup_an _ _ _ (by omega), zup_at]
    · rw [zup_an _ _ _ (by omega), zup_an _ _ _ (by omega), zup_at]
    · rw [zup_an _ _ _ (by omega), zup_at]
    · rw [zup_at, zup_an _ _ _ (by omega), zup_an _ _ _ (by omega), zup_an _ _ _ (by omega)]
    · rw [zup_an _ _ _ q1, zup_an _ _ _ q4, zup_an _ _ _ q3, zup_an _ _ _ q2]
  obtain ⟨a1, a2, a3, a4, a5, a6⟩ := h4
  have h6 : ∀ (G : zF) (k i : Nat), (∀ c, c ≠ 1 → mR6 G k i c = G c) ∧ (∀ j, j < i → mR6 G k i 1 (k + (3 + j)) = 0) ∧ ∀ j, j < k + 3 ∨ k + 3 + i ≤ j → mR6 G k i 1 j = G 1 j := by
    intro G k i
    induction i with
    | zero => exact ⟨fun _ _ => rfl, fun j hj => absurd hj (Nat.not_lt_zero j), fun _ _ => rfl⟩
    | succ i ih =>
      obtain ⟨b1, b2, b3⟩ := ih
      unfold mR6
      refine ⟨fun c hc => by rw [zup_ne _ _ _ hc, b1 c hc], fun j hj => ?_, fun j hj => by rw [zup_an _ _ _ (by omega)]; exact b3 j (by omega)⟩
      by_cases hji : j = i
      · rw [hji, zup_at]
      · rw [zup_an _ _ _ (by omega)]
        exact b2 j (by omega)
  unfold mRn
  by_cases hr0 : r = 0
  · rw [if_pos hr0]
    exact ⟨a1, a2, a3, a4, a5, fun q => absurd hr0 (by omega), fun i q1 q2 q3 q4 _ => a6 i q1 q2 q3 q4⟩
  · rw [if_neg hr0]
    obtain ⟨b1, b2, b3⟩ := h6 (mR5 (mR4 F r a l) (25 + 7 * (r - 1)) n m b) (25 + 7 * (r - 1)) 4
    have h5 : ∀ i, i < 25 + 7 * (r - 1) ∨ 25 + 7 * (r - 1) + 3 ≤ i → mR5 (mR4 F r a l) (25 + 7 * (r - 1)) n m b 1 i = mR4 F r a l 1 i := fun i q => by
      unfold mR5
      rw [zup_an _ _ _ (by omega), zup_an _ _ _ (by omega), zup_an _ _ _ (by omega)]
    refine ⟨fun c hc => ?_, ?_, ?_, ?_, ?_, fun _ => ⟨?_, ?_, ?_, fun i hi => b2 i hi⟩, fun i q1 q2 q3 q4 q5 => ?_⟩
    · rw [b1 c hc]
      unfold mR5
      rw [zup_ne _ _ _ hc, zup_ne _ _ _ hc, zup_ne _ _ _ hc, a1 c hc]
    · rw [b3 _ (by omega), h5 _ (by omega)]; exact a2
    · rw [b3 _ (by omega), h5 _ (by omega)]; exact a3
    · rw [b3 _ (by omega), h5 _ (by omega)]; exact a4
    · rw [b3 _ (by omega), h5 _ (by omega)]; exact a5
    · rw [b3 _ (by omega)]
      unfold mR5
      rw [zup_an _ _ _ (by omega), zup_an _ _ _ (by omega), zup_at]
    · rw [b3 _ (by omega)]
      unfold mR5
      rw [zup_an _ _ _ (by omega), zup_at]
    · rw [b3 _ (by omega)]
      unfold mR5
      rw [zup_at]
    · have q6 := q5 (by omega)
      rw [b3 i (by omega), h5 i (by omega)]
      exact a6 i q1 q2 q3 q4
theorem eAddR {G F : zF} {m t : Nat} {cv : Nat → List Nat} (hC : eC G (F 1) 0 m t t 900 cv) (hm5 : m < 5) {a l : Nat} {n k b : Int32} (ha : 1 ≤ a ∧ a ≤ 9) (hl : 10 ≤ l ∧ l ≤ 99) (hk : 0 < m → ∃ len c nb, (1 ≤ len ∧ len ≤ 9) ∧ (4 ≤ c ∧ c ≤ 60) ∧ nb ≤ 3 ∧ n = nI len ∧ k = nI c ∧ b = nI nb) :
    eC (aMkR (aAddL (decide (0 < m)) G n k b) (nI a) (nI l)) (mR7 (mRn F m (nI a) (nI l) n k b) 1) 0 (m + 1) t t 900 cv ∧ (∀ c, 45 ≤ c → aMkR (aAddL (decide (0 < m)) G n k b) (nI a) (nI l) c = G c) ∧ aAddL (decide (0 < m)) G n k b 1 3 = nI m ∧ mRn F m (nI a) (nI l) n k b 1 1 = nI m ∧ ∀ c, c ≠ 1 → mR7 (mRn F m (nI a) (nI l) n k b) c = F c := by
  obtain ⟨h1, h2, h3, h6, h7⟩ := hC
  obtain ⟨⟨hn, hm, hnm, ht⟩, ⟨s0, s1, s2, s3, s4, s5⟩, ⟨p4, p5, p6, p7, p8, p9, p10, p11⟩, k1, k2, k3⟩ := h1
  obtain ⟨r1, r2, r3, r4, r5, r6, r7⟩ := mRn_r (F := F) hm5 (nI a) (nI l) n k b
  have hal : a * l ≤ 9 * 99 := Nat.mul_le_mul ha.2 hl.2
  have hN1 : mRn F m (nI a) (nI l) n k b 1 1 = nI m := by rw [r7 1 (by decide) (by omega) (by omega) (by omega) (fun _ => by omega)]; exact s1
  have hN : ∀ i, i ≠ 1 → mR7 (mRn F m (nI a) (nI l) n k b) 1 i = mRn F m (nI a) (nI l) n k b 1 i := fun i q => zup_an _ _ _ q
  have hN11 : mR7 (mRn F m (nI a) (nI l) n k b) 1 1 = nI (m + 1) := by
    unfold mR7
    rw [zup_at, hN1, nI_1]
  have hNc : ∀ c, c ≠ 1 → mR7 (mRn F m (nI a) (nI l) n k b) c = F c := fun c q => by
    unfold mR7
    rw [zup_ne _ _ _ q, r1 c q]
  generalize mR7 (mRn F m (nI a) (nI l) n k b) = N at hN hN11 hNc ⊢
  -- the class's lock
  have hL : ∃ G1, G1 = aAddL (decide (0 < m)) G n k b ∧ (∀ c, c ≠ 8 → c ≠ 10 → c ≠ 12 → c ≠ 14 → c ≠ 16 → G1 c = G c) ∧ G1 8 8 = G 8 8 ∧ G1 8 9 = nI m ∧ (∀ c i, c ≠ 8 → i ≠ m - 1 → G1 c i = G c i) ∧ (0 < m → G1 10 (m - 1) = n ∧ G1 12 (m - 1) = k ∧ G1 14 (m - 1) = k / 4 ∧ G1 16 (m - 1) = b) := by
    refine ⟨_, rfl, ?_⟩
    by_cases hm0 : 0 < m
    · rw [decide_eq_true hm0]
      show (∀ c, c ≠ 8 → c ≠ 10 → c ≠ 12 → c ≠ 14 → c ≠ 16 → qMkL G n k b c = G c) ∧ qMkL G n k b 8 8 = G 8 8 ∧ qMkL G n k b 8 9 = nI m ∧ (∀ c i, c ≠ 8 → i ≠ m - 1 → qMkL G n k b c i = G c i) ∧ (0 < m → qMkL G n k b 10 (m - 1) = n ∧ qMkL G n k b 12 (m - 1) = k ∧ qMkL G n k b 14 (m - 1) = k / 4 ∧ qMkL G n k b 16 (m - 1) = b)
      unfold qMkL
      rw [s5, zwr_k _ _ _ (by omega) (by decide), zwr_k _ _ _ (by omega) (by decide), zwr_k _ _ _ (by omega) (by decide), zwr_k _ _ _ (by omega) (by decide), nI_1, show m - 1 + 1 = m by omega]
      refine ⟨fun c q8 q1 q2 q3 q4 => ?_, ?_, ?_, fun c i q8 qi => ?_, fun _ => ⟨?_, ?_, ?_, ?_⟩⟩
      · rw [zup_ne _ _ _ q8, zup_ne _ _ _ q4, zup_ne _ _ _ q3, zup_ne _ _ _ q2, zup_ne _ _ _ q1]
      · rw [zup_an _ _ _ (by decide), zup_ne _ _ _ (by decide), zup_ne _ _ _ (by decide), zup_ne _ _ _ (by decide), zup_ne _ _ _ (by decide)]
      · rw [zup_at]
      · simp [zup, q8, qi]
      · rw [zup_ne _ _ _ (by decide), zup_ne _ _ _ (by decide), zup_ne _ _ _ (by decide), zup_ne _ _ _ (by decide), zup_at]
      · rw [zup_ne _ _ _ (by decide), zup_ne _ _ _ (by decide), zup_ne _ _ _ (by decide), zup_at]
      · rw [zup_ne _ _ _ (by decide), zup_ne _ _ _ (by decide), zup_at]
      · rw [zup_ne _ _ _ (by decide), zup_at]
    · rw [decide_eq_false hm0]
      show (∀ c, c ≠ 8 → c ≠ 10 → c ≠ 12 → c ≠ 14 → c ≠ 16 → G c = G c) ∧ G 8 8 = G 8 8 ∧ G 8 9 = nI m ∧ (∀ c i, c ≠ 8 → i ≠ m - 1 → G c i = G c i) ∧ _
      refine ⟨fun _ _ _ _ _ _ => rfl, rfl, ?_, fun _ _ _ _ => rfl, fun q => absurd q hm0⟩
      rw [s5, show m - 1 = m by omega]
  obtain ⟨G1, hG1, l1, l2, l3, l4, l5⟩ := hL
  rw [← hG1]
  have g13 : G1 1 3 = nI m := by rw [l1 1 (by decide) (by decide) (by decide) (by decide) (by decide)]; exact s3
  have hH : aMkR G1 (nI a) (nI l) = zup (zup (zup (zup (zup G1 0 10 (G1 0 10 + nI (a * l))) 3 m (nI a)) 5 m (nI l)) 7 m (nI (a * l))) 1 3 (nI (m + 1)) := by
    unfold aMkR
    rw [g13, nI_mulc, nI_1, zwr_k _ _ _ hm5 (by decide), zwr_k _ _ _ hm5 (by decide), zwr_k _ _ _ hm5 (by decide)]
  rw [hH]
  generalize hHe : zup (zup (zup (zup (zup G1 0 10 (G1 0 10 + nI (a * l))) 3 m (nI a)) 5 m (nI l)) 7 m (nI (a * l))) 1 3 (nI (m + 1)) = H
  have hc : ∀ c, c ≠ 0 → c ≠ 1 → c ≠ 3 → c ≠ 5 → c ≠ 7 → H c = G1 c := fun c q0 q1 q3 q5 q7 => by
    rw [← hHe, zup_ne _ _ _ q1, zup_ne _ _ _ q7, zup_ne _ _ _ q5, zup_ne _ _ _ q3, zup_ne _ _ _ q0]
  have h0 : ∀ i, i ≠ 10 → H 0 i = G 0 i := fun i q => by
    rw [← hHe, zup_ne _ _ _ (by decide), zup_ne _ _ _ (by decide), zup_ne _ _ _ (by decide), zup_ne _ _ _ (by decide), zup_an _ _ _ q, l1 0 (by decide) (by decide) (by decide) (by decide) (by decide)]
  have h010 : H 0 10 = G 0 10 + nI (a * l) := by
    rw [← hHe, zup_ne _ _ _ (by decide), zup_ne _ _ _ (by decide), zup_ne _ _ _ (by decide), zup_ne _ _ _ (by decide), zup_at, l1 0 (by decide) (by decide) (by decide) (by decide) (by decide)]
  have hr : ∀ c i, c = 3 ∨ c = 5 ∨ c = 7 → i ≠ m → H c i = G c i := fun c i q qi => by
    rw [← hHe, ← l1 c (by omega) (by omega) (by omega) (by omega) (by omega)]
    rcases q with rfl | rfl | rfl <;> simp [zup, qi]
  have hrm : H 3 m = nI a ∧ H 5 m = nI l ∧ H 7 m = nI (a * l) ∧ H 1 3 = nI (m + 1) := by
    rw [← hHe]
    simp [zup]
  refine ⟨⟨?_, ⟨fun r hr2 => ?_, fun r q1 q2 => ?_⟩, ⟨fun j hj => ?_, fun j q1 q2 => ?_⟩, fun s hs => absurd hs (Nat.not_lt_zero s), ⟨fun s hs => absurd hs (Nat.not_lt_zero s), fun s hs => absurd hs (Nat.not_lt_zero s)⟩⟩, fun c hc2 => ?_, g13, hN1, hNc⟩
  · unfold eS
    rw [hN11, hN 0 (by decide), hN 2 (by decide), hN 3 (by decide), hN 4 (by decide), hN 5 (by decide), hN 6 (by decide), hN 7 (by decide), hN 8 (by decide), hN 9 (by decide), r5, r7 0 (by decide) (by omega) (by omega) (by omega) (fun _ => by omega), r7 2 (by decide) (by omega) (by omega) (by omega) (fun _ => by omega), r7 3 (by decide) (by omega) (by omega) (by omega) (fun _ => by omega), r7 4 (by decide) (by omega) (by omega) (by omega) (fun _ => by omega), r7 5 (by decide) (by omega) (by omega) (by omega) (fun _ => by omega), r7 6 (by decide) (by omega) (by omega) (by omega) (fun _ => by omega), r7 7 (by decide) (by omega) (by omega) (by omega) (fun _ => by omega), r7 8 (by decide) (by omega) (by omega) (by omega) (fun _ => by omega), hrm.2.2.2, hc 25 (by decide) (by decide) (by decide) (by decide) (by decide), hc 8 (by decide) (by decide) (by decide) (by decide) (by decide), l1 25 (by decide) (by decide) (by decide) (by decide) (by decide), l2, l3, h0 4 (by decide), h0 5 (by decide), h0 6 (by decide), h0 7 (by decide), h0 8 (by decide), h0 9 (by decide), h010, nI_mulc, p11]
    exact ⟨⟨hn, by omega, fun q => absurd q (Nat.lt_irrefl 0), ht⟩, ⟨s0, rfl, s2, rfl, s4, rfl⟩, ⟨p4, p5, p6, p7, p8, p9, p10, rfl⟩, k1, k2, k3⟩
  · by_cases hrm2 : r = m
    · subst hrm2
      unfold eRe1 eR
      rw [hN (10 + 3 * r) (by omega), hN (10 + 3 * r + 1) (by omega), hN (10 + 3 * r + 2) (by omega), r2, r3, r4, hrm.1, hrm.2.1, hrm.2.2.1, nI_mulc]
      exact ⟨⟨rfl, rfl, rfl⟩, a, l, a * l, ha.1, ha.2, hl.1, hl.2, by omega, rfl, rfl, rfl⟩
    · have q := h2.1 r (by omega)
      unfold eRe1 eR at *
      rw [hN (10 + 3 * r) (by omega), hN (10 + 3 * r + 1) (by omega), hN (10 + 3 * r + 2) (by omega), r7 (10 + 3 * r) (by omega) (by omega) (by omega) (by omega) (fun _ => by omega), r7 (10 + 3 * r + 1) (by omega) (by omega) (by omega) (by omega) (fun _ => by omega), r7 (10 + 3 * r + 2) (by omega) (by omega) (by omega) (by omega) (fun _ => by omega), hr 3 r (by simp) hrm2, hr 5 r (by simp) hrm2, hr 7 r (by simp) hrm2]
      exact q
  · rw [hr 7 r (by simp) (by omega)]
    exact h2.2 r (by omega) q2
  · have hcc : ∀ c, c = 10 ∨ c = 12 ∨ c = 14 ∨ c = 16 ∨ c = 18 ∨ c = 20 ∨ c = 22 ∨ c = 24 → H c = G1 c := fun c q => hc c (by omega) (by omega) (by omega) (by omega) (by omega)
    unfold eLo1 eP
    rw [hcc 10 (by simp), hcc 12 (by simp), hcc 14 (by simp), hcc 16 (by simp), hcc 18 (by simp), hcc 20 (by simp), hcc 22 (by simp), hcc 24 (by simp), hN (25 + 7 * j + 0) (by omega), hN (25 + 7 * j + 1) (by omega), hN (25 + 7 * j + 2) (by omega), hN (25 + 7 * j + 3) (by omega), hN (25 + 7 * j + 4) (by omega), hN (25 + 7 * j + 5) (by omega), hN (25 + 7 * j + 6) (by omega)]
    by_cases hjm : j = m - 1
    · have hm0 : 0 < m := by omega
      obtain ⟨t1, t2, t3, t4⟩ := r6 hm0
      obtain ⟨y1, y2, y3, y4⟩ := l5 hm0
      obtain ⟨len, c, nb, z1, z2, z3, z4, z5, z6⟩ := hk hm0
      obtain ⟨w1, w2, w3, w4⟩ := h3.2 (m - 1) (by omega) (by omega)
      have t43 := t4 0 (by decide)
      have t44 := t4 1 (by decide)
      have t45 := t4 2 (by decide)
      have t46 := t4 3 (by decide)
      rw [hjm, Nat.add_zero, t1, t2, t3, t43, t44, t45, t46, y1, y2, y3, y4, l1 18 (by decide) (by decide) (by decide) (by decide) (by decide), l1 20 (by decide) (by decide) (by decide) (by decide) (by decide), l1 22 (by decide) (by decide) (by decide) (by decide) (by decide), l1 24 (by decide) (by decide) (by decide) (by decide) (by decide), w1, w2, w3, w4, z4, z5, z6, nI_div4 c z2.2]
      exact ⟨⟨rfl, rfl, rfl, rfl, rfl, rfl⟩, len, c, nb, 0, 0, ⟨z1.1, z1.2, z2.1, z2.2, z3, by decide, (mB_pw nb z3).2.1⟩, ⟨rfl, rfl, rfl, rfl, rfl⟩, rfl, rfl⟩
    · have q := h3.1 j (by omega)
      unfold eLo1 eP at q
      rw [l4 10 j (by decide) hjm, l4 12 j (by decide) hjm, l4 14 j (by decide) hjm, l4 16 j (by decide) hjm, l4 18 j (by decide) hjm, l4 20 j (by decide) hjm, l4 22 j (by decide) hjm, l4 24 j (by decide) hjm, r7 (25 + 7 * j + 0) (by omega) (by omega) (by omega) (by omega) (fun _ => by omega), r7 (25 + 7 * j + 1) (by omega) (by omega) (by omega) (by omega) (fun _ => by omega), r7 (25 + 7 * j + 2) (by omega) (by omega) (by omega) (by omega) (fun _ => by omega), r7 (25 + 7 * j + 3) (by omega) (by omega) (by omega) (by omega) (fun _ => by omega), r7 (25 + 7 * j + 4) (by omega) (by omega) (by omega) (by omega) (fun _ => by omega), r7 (25 + 7 * j + 5) (by omega) (by omega) (by omega) (by omega) (fun _ => by omega), r7 (25 + 7 * j + 6) (by omega) (by omega) (by omega) (by omega) (fun _ => by omega)]
      exact q
  · rw [hc 18 (by decide) (by decide) (by decide) (by decide) (by decide), hc 20 (by decide) (by decide) (by decide) (by decide) (by decide), hc 22 (by decide) (by decide) (by decide) (by decide) (by decide), hc 24 (by decide) (by decide) (by decide) (by decide) (by decide), l1 18 (by decide) (by decide) (by decide) (by decide) (by decide), l1 20 (by decide) (by decide) (by decide) (by decide) (by decide), l1 22 (by decide) (by decide) (by decide) (by decide) (by decide), l1 24 (by decide) (by decide) (by decide) (by decide) (by decide)]
    exact h3.2 j (by omega) q2
  · rw [hc c (by omega) (by omega) (by omega) (by omega) (by omega), l1 c (by omega) (by omega) (by omega) (by omega) (by omega)]
theorem k_addReach (a l n k b : Int32) : eCall sX8_addReach sX9_addReach [.ref 495, .int a, .int l, .int n, .int k, .int b] [.ref 0, .int a, .int l, .int n, .int k, .int b] [xA, xS] := by
  intro Fc Fm h
  dsimp only [sX8_addReach, sX9_addReach]
  obtain ⟨ns, m, tk, cv, hC⟩ := h.1
  have hS := hC.1
  obtain ⟨⟨hn, hm, hnm, ht⟩, ⟨s0, s1, s2, s3, s4, s5⟩, -⟩ := hS
  have q1 : 0 < Fc 1 3 ↔ 0 < m := by
    rw [s3]
    exact nI_ltI (a := 0) (by decide) (by omega)
  have q2 : 0 < Fm 1 1 ↔ 0 < m := by
    rw [s1]
    exact nI_ltI (a := 0) (by decide) (by omega)
  have q3 : (Fc 1 3 < 5 ∧ Fc 25 9 = 0) ↔ ¬ (Fm 1 1 = 5 ∨ 0 < Fm 1 2) := by
    have e1 : Fc 1 3 < 5 ↔ m < 5 := by rw [s3]; exact nI_ltI (b := 5) (by omega) (by decide)
    have e2 : Fc 25 9 = 0 ↔ ns = 0 := by rw [s4]; exact nI_eq (b := 0) (by omega) (by decide)
    have e3 : Fm 1 1 = 5 ↔ m = 5 := by rw [s1]; exact nI_eq (b := 5) (by omega) (by decide)
    have e4 : 0 < Fm 1 2 ↔ 0 < ns := by rw [s2]; exact nI_ltI (a := 0) (by decide) (by omega)
    rw [e1, e2, e3, e4]
    omega
  have c12 : ∀ P : Prop, (0 < Fc 1 3 → P) ↔ (0 < Fm 1 1 → P) := fun P => by rw [q1, q2]
  refine ⟨fun c1 => ⟨fun c2 => ⟨fun c3 => ?_, fun c3 => ?_⟩, fun c2 => ?_⟩, fun c1 => ?_⟩
  · have c3' := q3.mp c3
    have hns : ns = 0 := by
      have := c3.2
      rw [s4] at this
      exact (nI_eq (b := 0) (by omega) (by decide)).mp this
    have hm5 : m < 5 := by
      have := c3.1
      rw [s3] at this
      exact (nI_ltI (b := 5) (by omega) (by decide)).mp this
    subst hns
    obtain ⟨kk, u, h1, h2, h3, h4, h5, h6, h7, h8, h9, h10, h11⟩ := eKept h
    have hC2 := h10 _ _ _ _ _ _ hC
    obtain ⟨A, a1, a2, rfl⟩ := eNat4 (a := 1) (n := 9) c1.1.1 c1.1.2 (by decide) (by decide)
    obtain ⟨L, b1, b2, rfl⟩ := eNat4 (a := 10) (n := 99) c1.2.1 c1.2.2 (by decide) (by decide)
    obtain ⟨r1, r2, r3, r4, r5⟩ := eAddR (F := mKeep (mT Fm) u) hC2 hm5 (n := n) (k := k) (b := b) ⟨a1, a2⟩ ⟨b1, b2⟩ (fun hm0 => by
      obtain ⟨d1, d2, d3⟩ := c2 (q1.mpr hm0)
      obtain ⟨len, x1, x2, x3⟩ := eNat4 (a := 1) (n := 9) d1.1 d1.2 (by decide) (by decide)
      obtain ⟨c, y1, y2, y3⟩ := eNat4 (a := 4) (n := 60) d2.1 d2.2 (by decide) (by decide)
      obtain ⟨nb, z1, z2, z3⟩ := eNat4 (a := 0) (n := 3) d3.1 d3.2 (by decide) (by decide)
      exact ⟨len, c, nb, ⟨x1, x2⟩, ⟨y1, y2⟩, z2, x3, y3, z3⟩)
    have hd : decide (0 < Fc 1 3) = decide (0 < m) := by
      by_cases g : 0 < m
      · rw [decide_eq_true g, decide_eq_true (q1.mpr g)]
      · rw [decide_eq_false g, decide_eq_false (fun z => g (q1.mp z))]
    rw [hd]
    refine ⟨kk, h1, h2, _, rfl, fun _ => ⟨fun _ => ⟨fun g => absurd g c3', fun _ => ⟨u, m, h3, h4, hm5, s1, ?_, ?_, ?_⟩⟩, fun g => absurd ((c12 _).mp c2) g⟩, fun g => absurd c1 g⟩
    · rw [r3, r4]
    · rw [r5 0 (by decide)]
      exact h6
    · exact h11 _ _ ⟨0, m + 1, tk, cv, r1⟩ r2 (r5 2 (by decide)) (r5 3 (by decide)) (r5 5 (by decide)) (fun i _ => by rw [r5 0 (by decide)])
  · exact ⟨fun _ => ⟨fun _ => ⟨fun _ => eRs h 2 _ _ (by simp) (by decide) (by decide), fun g => absurd (q3.mpr g) c3⟩, fun g => absurd ((c12 _).mp c2) g⟩, fun g => absurd c1 g⟩
  · exact ⟨fun _ => ⟨fun g => absurd ((c12 _).mpr g) c2, fun _ => eRs h 1 _ _ (by simp) (by decide) (by decide)⟩, fun g => absurd c1 g⟩
  · exact ⟨fun g => absurd g c1, fun _ => eRs h 1 _ _ (by simp) (by decide) (by decide)⟩
end ZEt
