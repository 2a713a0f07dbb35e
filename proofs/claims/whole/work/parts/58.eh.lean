/-! THE PURE PART: a tick -/
section ZEh
set_option maxRecDepth 20000
theorem eEndC {G F : zF} {n m t B : Nat} {cv : Nat → List Nat} (hC : eC G (F 1) n m t (t + 1) B cv) (hB : B ≤ 100000) (ht5 : t < 500) : eC (qEnd G) (zup (mSls F m m) 1 0 (mSls F m m 1 0 + 1) 1) n m (t + 1) (t + 1) 900 cv := by
  obtain ⟨h1, h2, h3, h6, h7⟩ := hC
  obtain ⟨⟨hn, hm, hnm, ht⟩, ⟨s0, s1, s2, s3, s4, s5⟩, ⟨p4, p5, p6, p7, p8, p9, p10, p11⟩, k1, k2, k3⟩ := h1
  obtain ⟨i1, i2, i3, i4, i5, -, ⟨x, -, x2, -, x4⟩, i8⟩ := eSpS h2 hm hB m (Nat.le_refl _)
  have x4 := x4 rfl
  have hmm : (G 1 3).toNatClampNeg = m := by rw [s3]; exact nI_clamp (by omega)
  unfold qEnd
  rw [hmm, x2]
  generalize (qSp G m).1 = H at i1 i5 i8 ⊢
  have hN : ∀ i, i ≠ 0 → zup (mSls F m m) 1 0 (mSls F m m 1 0 + 1) 1 i = mSls F m m 1 i := fun i q => zup_an _ _ _ q
  have hN0 : zup (mSls F m m) 1 0 (mSls F m m 1 0 + 1) 1 0 = nI (t + 1) := by
    rw [zup_at, i2 0 (by decide) (by decide), s0, nI_1]
  generalize zup (mSls F m m) 1 0 (mSls F m m 1 0 + 1) = N at hN hN0 ⊢
  have hc : ∀ c, c ≠ 0 → zup (zup H 0 9 (G 0 9 + nI x)) 0 7 (G 0 7 + 1) c = H c := fun c q => by rw [zup_ne _ _ _ q, zup_ne _ _ _ q]
  have hc2 : ∀ c, c ≠ 0 → c ≠ 7 → zup (zup H 0 9 (G 0 9 + nI x)) 0 7 (G 0 7 + 1) c = G c := fun c q1 q2 => (hc c q1).trans (i1 c q2)
  have h0 : ∀ i, i ≠ 9 → i ≠ 7 → zup (zup H 0 9 (G 0 9 + nI x)) 0 7 (G 0 7 + 1) 0 i = G 0 i := fun i q1 q2 => by rw [zup_an _ _ _ q2, zup_an _ _ _ q1, i1 0 (by decide)]
  have h09 : zup (zup H 0 9 (G 0 9 + nI x)) 0 7 (G 0 7 + 1) 0 9 = G 0 9 + nI x := by rw [zup_an _ _ _ (by decide), zup_at]
  have h07 : zup (zup H 0 9 (G 0 9 + nI x)) 0 7 (G 0 7 + 1) 0 7 = nI (t + 1) := by rw [zup_at, p7, s0, nI_1]
  generalize zup (zup H 0 9 (G 0 9 + nI x)) 0 7 (G 0 7 + 1) = K at hc hc2 h0 h09 h07 ⊢
  have hM : ∀ i, 25 ≤ i → N 1 i = F 1 i := fun i hi => (hN i (by omega)).trans (i3 i hi)
  refine ⟨?_, ⟨fun r hr => ?_, fun r q1 q2 => ?_⟩, ⟨fun k hk => ?_, fun k q1 q2 => ?_⟩, ?_, ?_⟩
  · unfold eS
    rw [hN0, hN 1 (by decide), hN 2 (by decide), hN 3 (by decide), hN 4 (by decide), hN 5 (by decide), hN 6 (by decide), hN 7 (by decide), hN 8 (by decide), hN 9 (by decide), i2 1 (by decide) (by decide), i2 2 (by decide) (by decide), i2 3 (by decide) (by decide), i2 4 (by decide) (by decide), i2 5 (by decide) (by decide), i2 6 (by decide) (by decide), i2 8 (by decide) (by decide), i2 9 (by decide) (by decide), x4, hc2 1 (by decide) (by decide), hc2 25 (by decide) (by decide), hc2 8 (by decide) (by decide), h0 4 (by decide) (by decide), h0 5 (by decide) (by decide), h0 6 (by decide) (by decide), h07, h0 8 (by decide) (by decide), h09, h0 10 (by decide) (by decide), p9]
    exact ⟨⟨hn, hm, hnm, by omega⟩, ⟨rfl, s1, s2, s3, s4, s5⟩, ⟨p4, p5, p6, rfl, p8, rfl, p10, p11⟩, k1, k2, k3⟩
  · obtain ⟨⟨e1, e2, e3⟩, a, l, w, g1, g2, g3, g4, g5, g6, g7, g8⟩ := h2.1 r hr
    obtain ⟨v, v1, v2, v3⟩ := i5 r hr
    unfold eRe1 eR
    rw [hN (10 + 3 * r) (by omega), hN (10 + 3 * r + 1) (by omega), hN (10 + 3 * r + 2) (by omega), (i4 r (by omega)).1, (i4 r (by omega)).2, v3, hc2 3 (by decide) (by decide), hc2 5 (by decide) (by decide), hc 7 (by decide), v2]
    exact ⟨⟨e1, e2, rfl⟩, a, l, v, g1, g2, g3, g4, v1, g6, g7, rfl⟩
  · rw [hc 7 (by decide), i8 r q1 q2]
    exact h2.2 r q1 q2
  · have q := h3.1 k hk
    unfold eLo1 eP at *
    rw [hc2 10 (by decide) (by decide), hc2 12 (by decide) (by decide), hc2 14 (by decide) (by decide), hc2 16 (by decide) (by decide), hc2 18 (by decide) (by decide), hc2 20 (by decide) (by decide), hc2 22 (by decide) (by decide), hc2 24 (by decide) (by decide), hM (25 + 7 * k + 0) (by omega), hM (25 + 7 * k + 1) (by omega), hM (25 + 7 * k + 2) (by omega), hM (25 + 7 * k + 3) (by omega), hM (25 + 7 * k + 4) (by omega), hM (25 + 7 * k + 5) (by omega), hM (25 + 7 * k + 6) (by omega)]
    exact q
  · rw [hc2 18 (by decide) (by decide), hc2 20 (by decide) (by decide), hc2 22 (by decide) (by decide), hc2 24 (by decide) (by decide)]
    exact h3.2 k q1 q2
  · exact eSh_o (fun c q1 q2 => hc2 c (by omega) (by omega)) (fun i hi => hM i (by omega)) h6
  · exact eCv_o (fun c q1 q2 => hc2 c (by omega) (by omega)) (fun i hi => hM i (by omega)) h7
theorem mTw_cv (F : zF) (n : Nat) (cv cw : Nat → Nat → List Nat) : ∀ k, (∀ i, i < k → cv i = cw i) → mTw F n cv k = mTw F n cw k
  | 0, _ => rfl
  | k + 1, h => by
    unfold mTw
    rw [mTw_cv F n cv cw k (fun i hi => h i (by omega)), h k (by omega)]
theorem eLoop {G F : zF} {n m t : Nat} {cv : Nat → List Nat} (hC : eC G (F 1) n m t t 900 cv) : ∀ j, j + 1 ≤ m → ∃ cvs : Nat → Nat → List Nat, ∀ i, i ≤ j → eC (qTTs G i) (mTw F n cvs i 1) n m t (t + 1) (900 + 60 * i) (cvs i) ∧ eTi (qTTs G i) (mTw F n cvs i) n t (cvs i) ∧ eFr F (mTw F n cvs i) n
  | 0, _ => by
    have hn := hC.1.1.1
    refine ⟨fun _ => cv, fun i hi => ?_⟩
    have hi0 : i = 0 := by omega
    subst hi0
    have e1 : mCl F 16 1 = F 1 := by
      funext i
      unfold mCl
      rw [if_neg (fun q => absurd q.1 (by decide))]
    show eC G (mCl F 16 1) n m t (t + 1) 900 cv ∧ eTi G (mCl F 16) n t cv ∧ eFr F (mCl F 16) n
    refine ⟨?_, fun s hs h35 => ?_, ?_⟩
    · rw [e1]
      exact eC_mono (by omega) (Nat.le_refl _) hC
    · have key : ∀ x, x < n → ¬ G 35 x = -1 → ¬ G 37 x = nI (t + 1) := fun x hx q1 q2 => by
        obtain ⟨-, z, d, r, u, g1, g2, g3⟩ := hC.2.2.2.1 x hx
        rcases g3 with g3 | ⟨k, y, r1, r2, r3, r4, r5, r6⟩
        · exact q1 g3.2
        · have := hC.1.1.2.2.2
          have := (nI_eq (by omega) (by omega)).mp (q2.symm.trans (r4.trans r6))
          omega
      refine ⟨?_, fun a ha hsa => ?_⟩
      · have e9 : mCl F 16 9 s = 0 := by
          unfold mCl
          rw [if_pos ⟨rfl, by omega⟩]
        rw [e9]
        exact ⟨fun q => absurd rfl q, fun q => absurd q (key s hs h35)⟩
      · have q := ((hC.2.2.2.2.2 a ha).2.2.2.1 s hsa).2.1
        exact ⟨fun z => absurd z (key s hs h35), fun z => absurd z (key a ha (by rw [← q]; exact h35))⟩
    · refine ⟨fun c _ _ _ _ q => ?_, fun i _ _ _ => ?_, ?_⟩
      · funext i
        unfold mCl
        rw [if_neg (fun z => q z.1)]
      · unfold mCl
        rw [if_neg (fun q => absurd q.1 (by decide))]
      · rw [mSr_c F (mCl F 16) (-1) n (fun s _ => by unfold mOf; rw [e1]), Int32.sub_self, Int32.add_zero]
        unfold mCl
        rw [if_neg (fun q => absurd q.1 (by decide))]
  | j + 1, hj => by
    obtain ⟨cvs, h⟩ := eLoop hC j (by omega)
    have hm := hC.1.1.2.1
    obtain ⟨h1, h2, h3⟩ := h j (Nat.le_refl _)
    obtain ⟨cv', t1, t2, t3⟩ := eTurn h1 (by omega) h2 (k := j) (by omega)
    have e : ∀ i, i ≤ j + 1 → mTw F n (fun i => if i = j + 1 then cv' else cvs i) i = mTw F n cvs i := fun i hi => mTw_cv F n _ _ i (fun q hq => by rw [if_neg (by omega)])
    refine ⟨fun i => if i = j + 1 then cv' else cvs i, fun i hi => ?_⟩
    rw [e i hi]
    dsimp only
    by_cases hij : i = j + 1
    · subst hij
      rw [if_pos rfl]
      exact ⟨by rw [show 900 + 60 * (j + 1) = 900 + 60 * j + 60 by omega]; exact t1, t2, eFr_trans h3 t3⟩
    · rw [if_neg hij]
      exact h i (by omega)
/-- both sides go one tick -/
theorem eTick {G F : zF} {n m t : Nat} {cv : Nat → List Nat} (hC : eC G (F 1) n m t t 900 cv) (hm2 : 1 ≤ m) (ht : t < 500) : ∃ cvs cv', mTp F n m cvs ∧ eC (qOT G) (mTick F n m cvs 1) n m (t + 1) (t + 1) 900 cv' ∧ eFr F (mTick F n m cvs) n := by
  have hm := hC.1.1.2.1
  obtain ⟨cvs, h⟩ := eLoop hC (m - 1) (by omega)
  obtain ⟨h1, h2, h3⟩ := h (m - 1) (Nat.le_refl _)
  have hI := eInC h1 hm2 (by omega)
  have hE := eEndC hI (by omega) ht
  have h89 : (G 8 9).toNatClampNeg = m - 1 := by rw [hC.1.2.1.2.2.2.2.2]; exact nI_clamp (by omega)
  refine ⟨cvs, cvs (m - 1), ⟨hm2, hm, fun k hk => eWp (h k (by omega)).1 hk, fun k hk => (h k (by omega)).1.1.2.1.2.1, fun r hr => ?_⟩, ?_, ?_⟩
  · obtain ⟨-, a, l, w, g1, g2, g3, g4, g5, g6, -⟩ := h1.2.1.1 r hr
    rw [g6]
    exact nI_ne0 (by omega) (by omega)
  · unfold qOT
    rw [h89]
    exact hE
  · have hi := eSpS hI.2.1 hm (by omega) m (Nat.le_refl _)
    have key : eFr (mTw F n cvs (m - 1)) (mTick F n m cvs) n := by
      refine eFr_x (fun c hc => ?_) (fun s => ?_)
      · unfold mTick mTe
        rw [zup_ne _ _ _ hc, mSls_ne _ _ hc]
        unfold mInf
        rw [zup_ne _ _ _ hc, zup_ne _ _ _ hc]
      · unfold mTick mTe mOf
        rw [zup_an _ _ _ (by omega), hi.2.2.1 _ (by omega)]
        unfold mInf
        rw [zup_an _ _ _ (by omega), zup_an _ _ _ (by omega)]
    exact eFr_trans h3 key
end ZEh
