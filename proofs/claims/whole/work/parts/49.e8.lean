/-! THE PURE PART: chambers are filled and emptied -/
section ZE8
set_option maxRecDepth 20000
theorem eS_u {G H : zF} {M N : Nat → Int32} {n m t : Nat} (h : eS G M n m t) (h0 : H 0 = G 0) (h1 : H 1 = G 1) (h9 : H 8 9 = G 8 9) (h25 : H 25 = G 25) (hM : ∀ i, i < 10 → i ≠ 8 → N i = M i) (h8 : H 8 8 = N 8) : eS H N n m t := by
  unfold eS at *
  rw [h0, h1, h9, h25, h8, hM 0 (by decide) (by decide), hM 1 (by decide) (by decide), hM 2 (by decide) (by decide), hM 3 (by decide) (by decide), hM 4 (by decide) (by decide), hM 5 (by decide) (by decide), hM 6 (by decide) (by decide), hM 7 (by decide) (by decide), hM 9 (by decide) (by decide)]
  obtain ⟨a1, a2, ⟨b1, b2, b3, b4, b5, b6, b7, b8⟩, a4⟩ := h
  exact ⟨a1, a2, ⟨b1, b2, b3, b4, b5, b6, rfl, b8⟩, a4⟩
theorem eRe_w {G H : zF} {M N : Nat → Int32} {m B B' r0 v : Nat} (h : eRe G M m B) (hm : m ≤ 5) (hr : r0 < m) (hv : v ≤ B') (hB : B ≤ B') (h3 : H 3 = G 3) (h5 : H 5 = G 5) (h7 : H 7 r0 = nI v) (h7o : ∀ r, r ≠ r0 → H 7 r = G 7 r)
    (hN : N (10 + 3 * r0 + 2) = nI v) (hNo : ∀ i, 10 ≤ i → i < 25 → i ≠ 10 + 3 * r0 + 2 → N i = M i) : eRe H N m B' := by
  refine ⟨fun r hr2 => ?_, fun r h1 h2 => ?_⟩
  · obtain ⟨⟨e1, e2, e3⟩, a, l, w, g1, g2, g3, g4, g5, g6, g7, g8⟩ := h.1 r hr2
    unfold eR at *
    unfold eRe1 eR
    by_cases hrr : r = r0
    · subst hrr
      rw [h3, h5, h7, hN, hNo (10 + 3 * r) (by omega) (by omega) (by omega), hNo (10 + 3 * r + 1) (by omega) (by omega) (by omega)]
      exact ⟨⟨e1, e2, rfl⟩, a, l, v, g1, g2, g3, g4, hv, g6, g7, rfl⟩
    · rw [h3, h5, h7o r hrr, hNo (10 + 3 * r) (by omega) (by omega) (by omega), hNo (10 + 3 * r + 1) (by omega) (by omega) (by omega), hNo (10 + 3 * r + 2) (by omega) (by omega) (by omega)]
      exact ⟨⟨e1, e2, e3⟩, a, l, w, g1, g2, g3, g4, by omega, g6, g7, g8⟩
  · rw [h7o r (by omega)]
    exact h.2 r h1 h2
theorem eLo_u {G H : zF} {M N : Nat → Int32} {m k0 f b : Nat} (h : eLo G M m) (hm : m ≤ 5) (hk : k0 + 1 < m) (hc : ∀ c, c = 10 ∨ c = 12 ∨ c = 14 ∨ c = 16 ∨ c = 22 ∨ c = 24 → H c = G c) (hf : f ≤ 1) (h18 : H 18 k0 = nI f) (h20 : H 20 k0 = nI (mBit b))
    (h18o : ∀ k, k ≠ k0 → H 18 k = G 18 k) (h20o : ∀ k, k ≠ k0 → H 20 k = G 20 k) (hN3 : N (25 + 7 * k0 + 3) = nI f) (hN4 : N (25 + 7 * k0 + 4) = nI b) (hNo : ∀ i, 25 ≤ i → i < 53 → i ≠ 25 + 7 * k0 + 3 → i ≠ 25 + 7 * k0 + 4 → N i = M i)
    (hb : ∀ nb, nb ≤ 3 → M (25 + 7 * k0 + 2) = nI nb → b < 2 ^ nb) : eLo H N m := by
  refine ⟨fun k hk2 => ?_, fun k h1 h2 => ?_⟩
  · obtain ⟨⟨e1, e2, e3, e4, e5, e6⟩, len, c, nb, f', b', g1, ⟨g2, g3, g4, g5, g6⟩, g7, g8⟩ := h.1 k hk2
    unfold eP at *
    unfold eLo1 eP
    rw [hc 10 (by simp), hc 12 (by simp), hc 14 (by simp), hc 16 (by simp), hc 22 (by simp), hc 24 (by simp), hNo (25 + 7 * k + 0) (by omega) (by omega) (by omega) (by omega), hNo (25 + 7 * k + 1) (by omega) (by omega) (by omega) (by omega), hNo (25 + 7 * k + 2) (by omega) (by omega) (by omega) (by omega), hNo (25 + 7 * k + 5) (by omega) (by omega) (by omega) (by omega), hNo (25 + 7 * k + 6) (by omega) (by omega) (by omega) (by omega)]
    by_cases hkk : k = k0
    · subst hkk
      rw [h18, h20, hN3, hN4]
      exact ⟨⟨e1, e2, e3, rfl, e5, e6⟩, len, c, nb, f, b, ⟨g1.1, g1.2.1, g1.2.2.1, g1.2.2.2.1, g1.2.2.2.2.1, hf, hb nb g1.2.2.2.2.1 g4⟩, ⟨g2, g3, g4, rfl, rfl⟩, g7, rfl⟩
    · rw [h18o k hkk, h20o k hkk, hNo (25 + 7 * k + 3) (by omega) (by omega) (by omega) (by omega), hNo (25 + 7 * k + 4) (by omega) (by omega) (by omega) (by omega)]
      exact ⟨⟨e1, e2, e3, e4, e5, e6⟩, len, c, nb, f', b', g1, ⟨g2, g3, g4, g5, g6⟩, g7, g8⟩
  · rw [hc 22 (by simp), hc 24 (by simp), h18o k (by omega), h20o k (by omega)]
    exact h.2 k h1 h2
theorem eSh_o {G H : zF} {M N : Nat → Int32} {n m T : Nat} (hG : ∀ c, 25 ≤ c → c < 44 → H c = G c) (hM : ∀ i, 53 ≤ i → N i = M i) (h : eSh G M n m T) : eSh H N n m T := by
  intro s hs
  have h1 := h s hs
  unfold eSh1 eO at *
  rw [hG 27 (by decide) (by decide), hG 29 (by decide) (by decide), hG 31 (by decide) (by decide), hG 33 (by decide) (by decide), hG 35 (by decide) (by decide), hG 37 (by decide) (by decide), hG 39 (by decide) (by decide), hM (53 + 9 * s + 0) (by omega), hM (53 + 9 * s + 1) (by omega), hM (53 + 9 * s + 2) (by omega), hM (53 + 9 * s + 3) (by omega), hM (53 + 9 * s + 4) (by omega), hM (53 + 9 * s + 5) (by omega), hM (53 + 9 * s + 8) (by omega)]
  exact h1
theorem eCv_o {G H : zF} {M N : Nat → Int32} {n : Nat} {cv : Nat → List Nat} (hG : ∀ c, 25 ≤ c → c < 44 → H c = G c) (hM : ∀ i, 53 ≤ i → N i = M i) (h : eCv G M n cv) : eCv H N n cv := by
  refine ⟨h.1, fun a ha => ?_⟩
  obtain ⟨⟨h1, h9⟩, h2, h3, h4, h5⟩ := h.2 a ha
  refine ⟨⟨eChn_c _ (fun x hx => by rw [hG 43 (by decide) (by decide)]) h1, h9⟩, h2, fun i x hx => ?_, fun x hx => ?_, fun h6 => h5 ?_⟩
  · have h6 := h3 i x hx
    unfold eO at *
    rw [hM (53 + 9 * x + 6) (by omega), hM (53 + 9 * x + 7) (by omega)]
    exact h6
  · have h6 := h4 x hx
    unfold eO at *
    rw [hG 41 (by decide) (by decide), hG 35 (by decide) (by decide), hM (53 + 9 * x + 3) (by omega), hM (53 + 9 * a + 3) (by omega)]
    exact h6
  · rw [← hG 35 (by decide) (by decide)]
    exact h6
theorem mBit_le : ∀ nb, nb ≤ 3 → ∀ b, b < 2 ^ nb → mBit b ≤ nb := by decide
theorem mBit_full : ∀ nb, nb ≤ 3 → mBit (2 ^ nb - 1) = nb := by decide
/-- filling -/
theorem eFillC {G F : zF} {n m t T B : Nat} {cv : Nat → List Nat} (hC : eC G (F 1) n m t T B cv) {k : Nat} (hk : k + 1 < m) (hf : mLP F k 3 = 0) (hlow : ¬ mLow F k) (hB : B < 2 ^ 29) :
    eC (qTC G (nI k)) (mFx F k 1) n m t T B cv ∧ mLP (mFx F k) k 3 = 1 ∧ ∀ c, c ≠ 1 → mFx F k c = F c := by
  obtain ⟨h1, h2, h3, h6, h7⟩ := hC
  have h1' := h1
  obtain ⟨⟨hn, hm, hnm, ht⟩, ⟨s0, s1, s2, s3, s4, s5⟩, ⟨p4, p5, p6, p7, p8, p9, p10, p11⟩, -, -, -⟩ := h1
  obtain ⟨q1, c, b, nb, ⟨b1, b2, b3, b4, b5⟩, q2, q3, q4, q5⟩ := eLck h3 hm hk
  obtain ⟨⟨e1, e2, e3⟩, a, l, w, g1, g2, g3, g4, g5, g6, g7, g8⟩ := h2.1 k (by omega)
  obtain ⟨l1, l2, l3, l4, l5, l6, -, -, -, -, -, -⟩ := eLo_v h3 hm hk
  have hW : qW G (nI k) = nI w := (zrd_k _ (by omega) (by decide)).trans (e3.trans g8)
  have hWm : mWa F k = nI w := g8
  have hmlc : mLc F k (mLP F k 4).toNatClampNeg = nI (c - mBit b * (c / 4)) := q1.symm.trans q5
  have hlw : c - mBit b * (c / 4) ≤ w := by
    unfold mLow at hlow
    rw [hmlc, hWm, nI_ltI (by omega) (by omega)] at hlow
    omega
  have hbq : (mLP F k 4).toNatClampNeg = b := by rw [q3]; exact eBit1 b3 b4
  have hfu : ¬ qFu G (nI k) = 1 := by rw [l4, hf]; decide
  have hT : qTC G (nI k) = zup (zup (zup (zup G 7 k (nI (w - (c - mBit b * (c / 4))))) 8 8 (G 8 8 + qInB G (nI k))) 20 k 0) 18 k 1 := by
    unfold qTC
    rw [if_neg hfu]
    unfold qFill
    rw [zwr_k _ _ _ (by omega) (by decide), hW, q5, zwr_k _ _ _ (by omega) (by decide), zwr_k _ _ _ (by omega) (by decide), Int32.add_neg_eq_sub, nI_subc hlw]
    have e : qInB (zup G 7 k (nI (w - (c - mBit b * (c / 4))))) (nI k) = qInB G (nI k) := by
      simp only [qInB, qFb, qQu]
      rw [zup_ne _ _ _ (by decide), zup_ne _ _ _ (by decide)]
    rw [e, zup_ne _ _ _ (by decide)]
  have hM8 : qInB G (nI k) = mLP F k 1 / 4 * nI (mBit b) := by
    obtain ⟨-, -, -, -, -, -, len', c', nb', f', b', lb, ⟨lk0, lk1, lk2, lk3, lk4⟩, lk5, lk6⟩ := eLo_v h3 hm hk
    have e1 := (nI_eq (by omega) (by omega)).mp (lk1.symm.trans q2)
    have e2 := (nI_eq (by have := mB_8 lb.2.2.2.2.1 lb.2.2.2.2.2.2; omega) (by have := mB_8 b4 b3; omega)).mp (lk4.symm.trans q3)
    subst e1
    subst e2
    show qFb G (nI k) * qQu G (nI k) = _
    rw [lk6, lk5, q2, nI_div4 _ b2, Int32.mul_comm]
  unfold mFx
  rw [hbq] at hmlc ⊢
  refine ⟨?_, ?_, fun c hc => ?_⟩
  · rw [hT]
    refine ⟨?_, ?_, ?_, ?_, ?_⟩
    · refine eS_u h1' ?_ ?_ ?_ ?_ ?_ ?_
      · rw [zup_ne _ _ _ (by decide), zup_ne _ _ _ (by decide), zup_ne _ _ _ (by decide), zup_ne _ _ _ (by decide)]
      · rw [zup_ne _ _ _ (by decide), zup_ne _ _ _ (by decide), zup_ne _ _ _ (by decide), zup_ne _ _ _ (by decide)]
      · rw [zup_ne _ _ _ (by decide), zup_ne _ _ _ (by decide), zup_an _ _ _ (by decide), zup_ne _ _ _ (by decide)]
      · rw [zup_ne _ _ _ (by decide), zup_ne _ _ _ (by decide), zup_ne _ _ _ (by decide), zup_ne _ _ _ (by decide)]
      · intro i hi hi8
        exact mFil_at F k b (by omega) (by omega) hi8 (by omega) (by omega)
      · rw [zup_ne _ _ _ (by decide), zup_ne _ _ _ (by decide), zup_at, p10, hM8]
        unfold mFil
        rw [zup_an _ _ _ (by omega), zup_an _ _ _ (by omega), zup_at]
    · refine eRe_w (v := w - (c - mBit b * (c / 4))) h2 hm (show k < m by omega) (by omega) (Nat.le_refl B) ?_ ?_ ?_ (fun r hr => ?_) ?_ (fun i hi hi2 hi3 => ?_)
      · rw [zup_ne _ _ _ (by decide), zup_ne _ _ _ (by decide), zup_ne _ _ _ (by decide), zup_ne _ _ _ (by decide)]
      · rw [zup_ne _ _ _ (by decide), zup_ne _ _ _ (by decide), zup_ne _ _ _ (by decide), zup_ne _ _ _ (by decide)]
      · rw [zup_ne _ _ _ (by decide), zup_ne _ _ _ (by decide), zup_ne _ _ _ (by decide), zup_at]
      · rw [zup_ne _ _ _ (by decide), zup_ne _ _ _ (by decide), zup_ne _ _ _ (by decide), zup_an _ _ _ hr]
      · unfold mFil
        rw [zup_an _ _ _ (by omega), zup_an _ _ _ (by omega), zup_an _ _ _ (by omega), zup_at, hmlc, hWm, nI_subc hlw]
      · exact mFil_at F k b (by omega) hi3 (by omega) (by omega) (by omega)
    · refine eLo_u (f := 1) (b := 0) h3 hm hk (fun c hc => ?_) (Nat.le_refl 1) ?_ ?_ (fun r hr => ?_) (fun r hr => ?_) ?_ ?_ (fun i hi hi2 hi3 hi4 => ?_) (fun nb hnb _ => (mB_pw nb hnb).2.1)
      · rw [zup_ne _ _ _ (by omega), zup_ne _ _ _ (by omega), zup_ne _ _ _ (by omega), zup_ne _ _ _ (by omega)]
      · rw [zup_at]
        rfl
      · rw [zup_ne _ _ _ (by decide), zup_at]
        rfl
      · rw [zup_an _ _ _ hr, zup_ne _ _ _ (by decide), zup_ne _ _ _ (by decide), zup_ne _ _ _ (by decide)]
      · rw [zup_ne _ _ _ (by decide), zup_an _ _ _ hr, zup_ne _ _ _ (by decide), zup_ne _ _ _ (by decide)]
      · unfold mFil
        rw [zup_an _ _ _ (by omega), zup_at]
        rfl
      · exact mFil_4 F k b
      · exact mFil_at F k b (by omega) (by omega) (by omega) hi3 hi4
    · refine eSh_o (fun c hc hc2 => ?_) (fun i hi => ?_) h6
      · rw [zup_ne _ _ _ (by omega), zup_ne _ _ _ (by omega), zup_ne _ _ _ (by omega), zup_ne _ _ _ (by omega)]
      · exact mFil_at F k b (by omega) (by omega) (by omega) (by omega) (by omega)
    · refine eCv_o (fun c hc hc2 => ?_) (fun i hi => ?_) h7
      · rw [zup_ne _ _ _ (by omega), zup_ne _ _ _ (by omega), zup_ne _ _ _ (by omega), zup_ne _ _ _ (by omega)]
      · exact mFil_at F k b (by omega) (by omega) (by omega) (by omega) (by omega)
  · unfold mLP mFil
    rw [zup_an _ _ _ (by omega), zup_at]
  · unfold mFil
    rw [zup_ne _ _ _ hc, zup_ne _ _ _ hc, zup_ne _ _ _ hc, zup_ne _ _ _ hc]
/-- emptying -/
theorem eEmpC {G F : zF} {n m t T B : Nat} {cv : Nat → List Nat} (hC : eC G (F 1) n m t T B cv) {k : Nat} (hk : k + 1 < m) (hf : mLP F k 3 = 1) (hB : B < 2 ^ 29) :
    eC (qTC G (nI k)) (mEx F k 1) n m t T (B + 60) cv ∧ mLP (mEx F k) k 3 = 0 ∧ ∀ c, c ≠ 1 → mEx F k c = F c := by
  obtain ⟨h1, h2, h3, h6, h7⟩ := hC
  have h1' := h1
  obtain ⟨⟨hn, hm, hnm, ht⟩, ⟨s0, s1, s2, s3, s4, s5⟩, ⟨p4, p5, p6, p7, p8, p9, p10, p11⟩, -, -, -⟩ := h1
  obtain ⟨⟨e1, e2, e3⟩, a, l, w, g1, g2, g3, g4, g5, g6, g7, g8⟩ := h2.1 (k + 1) (by omega)
  obtain ⟨l1, l2, l3, l4, l5, l6, len, c, nb, f, b, lb, ⟨lk0, lk1, lk2, lk3, lk4⟩, lk5, lk6⟩ := eLo_v h3 hm hk
  have hW : qW G (nI k + 1) = nI w := by
    rw [nI_1]
    exact (zrd_k _ (by omega) (by decide)).trans (e3.trans g8)
  have hfu : qFu G (nI k) = 1 := by rw [l4, hf]
  have hbn := mBit_le nb lb.2.2.2.2.1 b lb.2.2.2.2.2.2
  have hx : (nb - mBit b) * (c / 4) ≤ c := by
    have : (nb - mBit b) * (c / 4) ≤ 3 * (c / 4) := Nat.mul_le_mul_right _ (by omega)
    omega
  have hL : qLeft G (nI k) = nI (c - (nb - mBit b) * (c / 4)) := by
    unfold qLeft
    rw [l2, lk1, l3, lk2, lk6, lk5, nI_subc hbn, nI_mulc, nI_subc hx]
  have hT : qTC G (nI k) = zup (zup (zup G 7 (k + 1) (nI (w + (c - (nb - mBit b) * (c / 4))))) 20 k (nI nb)) 18 k 0 := by
    unfold qTC
    rw [if_pos hfu]
    unfold qEmp
    rw [hW, hL, nI_1, zwr_k _ _ _ (by omega) (by decide), zwr_k _ _ _ (by omega) (by decide), zwr_k _ _ _ (by omega) (by decide), nI_add]
    have e : qBa (zup G 7 (k + 1) (nI (w + (c - (nb - mBit b) * (c / 4))))) (nI k) = nI nb := by
      simp only [qBa]
      rw [zup_ne _ _ _ (by decide)]
      exact l3.trans lk2
    rw [e]
  have hE : mEx F k = mEmp F k c nb b := mEx_e lk1 lb.2.2.2.1 lk2 lb.2.2.2.2.1 lk4 lb.2.2.2.2.2.2
  rw [hE]
  refine ⟨?_, ?_, fun c hc => ?_⟩
  · rw [hT]
    refine ⟨?_, ?_, ?_, ?_, ?_⟩
    · refine eS_u h1' ?_ ?_ ?_ ?_ ?_ ?_
      · rw [zup_ne _ _ _ (by decide), zup_ne _ _ _ (by decide), zup_ne _ _ _ (by decide)]
      · rw [zup_ne _ _ _ (by decide), zup_ne _ _ _ (by decide), zup_ne _ _ _ (by decide)]
      · rw [zup_ne _ _ _ (by decide), zup_ne _ _ _ (by decide), zup_ne _ _ _ (by decide)]
      · rw [zup_ne _ _ _ (by decide), zup_ne _ _ _ (by decide), zup_ne _ _ _ (by decide)]
      · intro i hi hi8
        exact mEmp_at F k c nb b (by omega) (by omega) (by omega)
      · rw [zup_ne _ _ _ (by decide), zup_ne _ _ _ (by decide), zup_ne _ _ _ (by decide), p10]
        exact (mEmp_at F k c nb b (by omega) (by omega) (by omega)).symm
    · refine eRe_w (v := w + (c - (nb - mBit b) * (c / 4))) h2 hm (show k + 1 < m by omega) (by omega) (by omega) ?_ ?_ ?_ (fun r hr => ?_) ?_ (fun i hi hi2 hi3 => ?_)
      · rw [zup_ne _ _ _ (by decide), zup_ne _ _ _ (by decide), zup_ne _ _ _ (by decide)]
      · rw [zup_ne _ _ _ (by decide), zup_ne _ _ _ (by decide), zup_ne _ _ _ (by decide)]
      · rw [zup_ne _ _ _ (by decide), zup_ne _ _ _ (by decide), zup_at]
      · rw [zup_ne _ _ _ (by decide), zup_ne _ _ _ (by decide), zup_an _ _ _ hr]
      · unfold mEmp
        rw [zup_an _ _ _ (by omega), zup_at, show F 1 (10 + 3 * (k + 1) + 2) = nI w from g8, nI_add]
      · exact mEmp_at F k c nb b (by omega) (by omega) (by omega)
    · refine eLo_u (f := 0) (b := 2 ^ nb - 1) h3 hm hk (fun c hc => ?_) (by decide) ?_ ?_ (fun r hr => ?_) (fun r hr => ?_) ?_ ?_ (fun i hi hi2 hi3 hi4 => ?_) (fun nb' hnb h9 => ?_)
      · rw [zup_ne _ _ _ (by omega), zup_ne _ _ _ (by omega), zup_ne _ _ _ (by omega)]
      · rw [zup_at]
        rfl
      · rw [zup_ne _ _ _ (by decide), zup_at, mBit_full nb lb.2.2.2.2.1]
      · rw [zup_an _ _ _ hr, zup_ne _ _ _ (by decide), zup_ne _ _ _ (by decide)]
      · rw [zup_ne _ _ _ (by decide), zup_an _ _ _ hr, zup_ne _ _ _ (by decide)]
      · unfold mEmp
        rw [zup_at]
        rfl
      · exact mEmp_4 F k c nb b (by omega)
      · exact mEmp_at F k c nb b (by omega) hi3 hi4
      · have := (nI_eq (by omega) (by omega)).mp (h9.symm.trans lk2)
        subst this
        exact (mB_pw nb' hnb).2.2
    · refine eSh_o (fun c hc hc2 => ?_) (fun i hi => ?_) h6
      · rw [zup_ne _ _ _ (by omega), zup_ne _ _ _ (by omega), zup_ne _ _ _ (by omega)]
      · exact mEmp_at F k c nb b (by omega) (by omega) (by omega)
    · refine eCv_o (fun c hc hc2 => ?_) (fun i hi => ?_) h7
      · rw [zup_ne _ _ _ (by omega), zup_ne _ _ _ (by omega), zup_ne _ _ _ (by omega)]
      · exact mEmp_at F k c nb b (by omega) (by omega) (by omega)
  · unfold mLP mEmp
    rw [zup_at]
  · unfold mEmp
    rw [zup_ne _ _ _ hc, zup_ne _ _ _ hc, zup_ne _ _ _ hc]
end ZE8
