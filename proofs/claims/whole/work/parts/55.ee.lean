/-! THE PURE PART: a row is locked: what holds behind it -/
section ZEe
set_option maxRecDepth 20000
theorem mLe_o (G : zF) (k p : Nat) : (∀ c, c ≠ 1 → mLe G k p c = G c) ∧ ∀ i, 53 ≤ i → k < 4 → mLe G k p 1 i = G 1 i := by
  unfold mLe
  refine ⟨fun c hc => by rw [zup_ne _ _ _ hc, zup_ne _ _ _ hc], fun i hi hk => by rw [zup_an _ _ _ (by omega), zup_an _ _ _ (by omega)]⟩
theorem eLocks {G F : zF} {n m t B : Nat} {cv : Nat → List Nat} (hC : eC G (F 1) n m t (t + 1) B cv) (hT : eTi G F n t cv) {a k : Nat} (ha : a < n) (hf : mOf F a 6 = nI a) (hk : k < 2 ^ 30) (h35 : G 35 a = nI k) (hrow : mRow F k (cv a) ≠ []) :
    ∃ cv', eC (qLR G (nI a) (nI (mRow F k (cv a)).length) (nI k)) (mLks F a n k (cv a) 1) n m t (t + 1) B cv' ∧ eTi (qLR G (nI a) (nI (mRow F k (cv a)).length) (nI k)) (mLks F a n k (cv a)) n t cv' ∧ eFr F (mLks F a n k (cv a)) n := by
  obtain ⟨R, hR⟩ : ∃ R, R = mRow F k (cv a) := ⟨_, rfl⟩
  obtain ⟨G1, hG1⟩ : ∃ G1, G1 = qCt G (nI a) (nI R.length) := ⟨_, rfl⟩
  obtain ⟨F1, hF1⟩ : ∃ F1, F1 = mS2 F n k (cv a) := ⟨_, rfl⟩
  obtain ⟨b1, b2, b3, b4, b5, b6, b7, b8, b9, b10, b11⟩ := eCutC hC ha hf hrow hR hG1 hF1
  obtain ⟨h1, h2, h3, h6, h7⟩ := hC
  have h1' := h1
  obtain ⟨⟨hn, hm, hnm, ht⟩, ⟨s0, s1, s2, s3, s4, s5⟩, ⟨p4, p5, p6, p7, p8, p9, p10, p11⟩, -, -, -⟩ := h1
  obtain ⟨hkm, a4, aN, aL, a0, xx, -, -, -⟩ := eAt h6 hm ha h35 hk
  have hu := (eNat h6 ha).1.2.2.2.2.2.2.2.2
  obtain ⟨⟨e1, e2⟩, e3, e4, e5, e6⟩ := b1.2 a ha
  rw [b2] at e1 e2 e4 e5
  have hR35 : ∀ x, x ∈ R → G 35 x = nI k ∧ G 33 x = nI (nU F a) ∧ x < n := fun x hx => by
    have q := (h7.2 a ha).2.2.2.1 x (b10 x hx)
    have q2 := eCv_lt h7 ha (b10 x hx)
    have q3 := eNat h6 q2
    refine ⟨q.2.1.trans h35, ?_, q2⟩
    rw [q3.2.2.2.2, ← q3.1.2.2.2.2.2.2.2.2.1]
    exact q.2.2.trans hu.1
  have hE : ∀ X : zF, mLks F a n k (cv a) = mLe (mLr (mLv F a) (mNx F a) R F1) k R.length := fun _ => by
    unfold mLks
    rw [← hR, ← hF1]
  have hQ : qLR G (nI a) (nI R.length) (nI k) = zup (zup (qMv R.length G1 (eHd R)) 22 k (qMv R.length G1 (eHd R) 22 k + nI R.length)) 24 k (qMv R.length G1 (eHd R) 24 k + 1) := by
    unfold qLR
    rw [nI_clamp (by omega), ← hG1, ← b9]
    rw [zwr_k _ _ _ (by omega) (by decide), zwr_k _ _ _ (by omega) (by decide), zrd_k _ (by omega) (by decide), zrd_k _ (by omega) (by decide), zup_ne _ _ _ (show 24 ≠ 22 by decide)]
  rw [← hR, hE F, hQ]
  have hsu : ∀ s, s < n → ∀ b, b < n → s ∈ eCut cv a R.length b → (s ∈ R ↔ b = a) := fun s hs b hb hsb => by
    constructor
    · intro q
      exact eCv_uniq hn b1 hb ha hsb (by rw [b2]; exact q)
    · intro q
      rw [q, b2] at hsb
      exact hsb
  have hbR : ∀ s, ∀ b, b < n → s ∈ eCut cv a R.length b → ¬ s ∈ R → ¬ b ∈ R := fun s b hb hsb hsR q => by
    by_cases hba : b = a
    · rw [hba, b2] at hsb
      exact hsR hsb
    · have := eCv_emp hn b1 ha hb (by rw [b2]; exact q) hba
      rw [this] at hsb
      exact nomatch hsb
  have hTc := eTi_cut h7 hT (p := R.length) ha
  have hm1 : (F 1 1 - 1 : Int32) = nI (m - 1) := by rw [s1, nI_m1 (by omega)]
  have hle := mLe_o (mLr (mLv F a) (mNx F a) R F1) k R.length
  by_cases hlv : mLv F a = true
  · -- the row leaves
    have hval : ∀ x, x ∈ R → ¬ (0 ≤ G1 35 x + (if nI (nU F a) = 1 then -1 else 1) ∧ G1 35 x + (if nI (nU F a) = 1 then -1 else 1) < G1 8 9) ∧ G1 33 x = nI (nU F a) := fun x hx => by
      obtain ⟨q1, q2, -⟩ := hR35 x hx
      rw [b3 35 (by decide) (by decide), b3 33 (by decide) (by decide), b3 8 (by decide) (by decide), q1, q2, s5]
      refine ⟨?_, rfl⟩
      have hl2 := of_decide_eq_true hlv
      rw [aN, hu.1, hm1] at hl2
      by_cases hu1 : nU F a = 1
      · rw [hu1, if_pos (show nI 1 = 1 from rfl)] at hl2
        have hk0 : k + 1 - 1 = 0 := (nI_eq (b := 0) (by omega) (by omega)).mp hl2
        rw [hu1, if_pos (show nI 1 = 1 from rfl), show k = 0 by omega]
        intro q
        exact absurd q.1 (by decide)
      · have hu0 : nU F a = 0 := by omega
        rw [hu0, if_neg (show ¬ nI 0 = 1 by decide)] at hl2
        have hk0 := (nI_eq (by omega) (by omega)).mp hl2
        rw [hu0, if_neg (show ¬ nI 0 = 1 by decide), nI_1]
        intro q
        exact nI_nlt (by omega) (by omega) q.2
    obtain ⟨g1, g2, g3⟩ := qMv_lv (u := nI (nU F a)) R G1 e1 e2 hval
    obtain ⟨f1, f2, f3, f4, f5, f6, f7⟩ := mLr_lv (mNx F a) R F1 e2
    rw [hlv] at hle ⊢
    have hs := eLe_s (B := B) (p := R.length) h1' h2 h3 hkm hm (G2 := qMv R.length G1 (eHd R)) (F2 := mLr true (mNx F a) R F1) (fun c hc => (g1 c (by omega) (by omega) (by omega) (by omega)).trans (b3 c (by omega) (by omega))) ((g1 25 (by decide) (by decide) (by decide) (by decide)).trans (b3 25 (by decide) (by decide))) (fun i hi => (f5 i hi).trans (b5 i hi))
    generalize hH : zup (zup (qMv R.length G1 (eHd R)) 22 k (qMv R.length G1 (eHd R) 22 k + nI R.length)) 24 k (qMv R.length G1 (eHd R) 24 k + 1) = H at hs ⊢
    have hHc : ∀ c, c ≠ 22 → c ≠ 24 → H c = qMv R.length G1 (eHd R) c := fun c q1 q2 => by rw [← hH, zup_ne _ _ _ q2, zup_ne _ _ _ q1]
    generalize hN : mLe (mLr true (mNx F a) R F1) k R.length = N at hs hle ⊢
    have hNo : ∀ x w, mOf N x w = mOf (mLr true (mNx F a) R F1) x w := fun x w => hle.2 _ (by omega) (by omega)
    have hHx : ∀ x, ¬ x ∈ R → ∀ c, c ≠ 22 → c ≠ 24 → H c x = G1 c x := fun x hx c q1 q2 => by rw [hHc c q1 q2, g3 x hx c]
    refine ⟨fun b => if b ∈ R then [b] else eCut cv a R.length b, ⟨hs.1, hs.2.1, hs.2.2, ?_, ?_⟩, ?_, ?_⟩
    · refine eSh_R (M := F 1) (N := N 1) R (Nat.le_refl _) h6 (fun s hs2 hsR => ⟨fun c hc => ?_, fun w hw => ?_⟩) (fun s hs2 hsR => ⟨⟨fun c hc => ?_, fun w hw => ?_⟩, ?_, Or.inl ⟨?_, ?_⟩⟩)
      · rw [hHx s hsR c (by omega) (by omega), b3 c (by omega) (by omega)]
      · exact (hNo s w).trans ((f3 s w (by omega) (Or.inl hsR)).trans (b4 s w (by omega) (by omega) (by omega)))
      · rw [hHc c (by omega) (by omega), g1 c (by omega) (by omega) (by omega) (by omega), b3 c (by omega) (by omega)]
      · exact (hNo s w).trans ((f3 s w (by omega) (Or.inr (by omega))).trans (b4 s w (by omega) (by omega) (by omega)))
      · rw [hHc 39 (by decide) (by decide), (g2 s hsR).2.1, b3 0 (by decide) (by decide), p7]
        exact ((hNo s 8).trans ((f2 s hsR).2.2.2.1.trans (b5 0 (by decide)))).symm
      · exact (hNo s 4).trans (f2 s hsR).1
      · rw [hHc 35 (by decide) (by decide)]
        exact (g2 s hsR).1
    · refine ⟨fun s hs2 => ?_, fun b hb => ?_⟩
      · by_cases hsR : s ∈ R
        · exact ⟨s, hs2, by dsimp only; rw [if_pos hsR]; exact List.mem_cons_self⟩
        · obtain ⟨b, hb, hsb⟩ := b1.1 s hs2
          exact ⟨b, hb, by dsimp only; rw [if_neg (hbR s b hb hsb hsR)]; exact hsb⟩
      · dsimp only
        by_cases hbRR : b ∈ R
        · rw [if_pos hbRR]
          have q := g2 b hbRR
          refine ⟨⟨⟨by omega, ?_, True.intro⟩, List.nodup_cons.mpr ⟨List.not_mem_nil, List.nodup_nil⟩⟩, Or.inr rfl, fun i x hi => ?_, fun x hx => ?_, fun _ => Nat.le_refl _⟩
          · rw [hHc 43 (by decide) (by decide)]
            exact q.2.2.2
          · cases i with
            | zero =>
              cases hi
              exact ⟨hb, (hNo b 6).trans (f2 b hbRR).2.1, (hNo b 7).trans (f2 b hbRR).2.2.1⟩
            | succ i => exact nomatch hi
          · have hxb := List.mem_singleton.mp hx
            subst hxb
            exact ⟨by rw [hHc 41 (by decide) (by decide)]; exact q.2.2.1, rfl, rfl⟩
        · rw [if_neg hbRR]
          refine eCv1_same (b1.2 b hb) (fun x hx => ?_)
          have hxR : ¬ x ∈ R := fun q => hbRR (by rw [(hsu x (eCv_lt b1 hb hx) b hb hx).mp q]; exact b8)
          exact ⟨hHx x hxR 43 (by decide) (by decide), hHx x hxR 41 (by decide) (by decide), hHx x hxR 35 (by decide) (by decide), (hNo x 6).trans (f3 x 6 (by decide) (Or.inl hxR)), (hNo x 7).trans (f3 x 7 (by decide) (Or.inl hxR)), (hNo x 3).trans (f3 x 3 (by decide) (Or.inl hxR))⟩
    · intro s hs2 hs35
      have hsR : ¬ s ∈ R := fun q => hs35 (by rw [hHc 35 (by decide) (by decide)]; exact (g2 s q).1)
      have e37 : ∀ x, H 37 x = G 37 x := fun x => by rw [hHc 37 (by decide) (by decide), g1 37 (by decide) (by decide) (by decide) (by decide), b3 37 (by decide) (by decide)]
      have e35 : H 35 s = G 35 s := by rw [hHx s hsR 35 (by decide) (by decide), b3 35 (by decide) (by decide)]
      rw [e35] at hs35
      have q := hT s hs2 hs35
      refine ⟨?_, fun b hb hsb => ?_⟩
      · rw [e37, hle.1 9 (by decide), f4 s hsR, b6 9 (by decide) (by decide) (by decide)]
        exact q.1
      · dsimp only at hsb
        by_cases hbRR : b ∈ R
        · rw [if_pos hbRR] at hsb
          exact absurd (by rw [List.mem_singleton.mp hsb]; exact hbRR) hsR
        · rw [if_neg hbRR] at hsb
          rw [e37, e37]
          exact hTc s hs2 hs35 b hb hsb
    · refine ⟨fun c q0 q1 q7 q8 q9 => ?_, fun i q14 q16 q18 => ?_, ?_⟩
      · rw [hle.1 c q1, f1 c q1 q9 q0, b6 c q0 q1 q8]
      · rw [hle.1 0 (by decide), f7 i q18, b7 i q16]
      · have hcnt := mSr_add F N (-1) n R e2 (fun x hx => by
          obtain ⟨q1, q2, q3⟩ := hR35 x hx
          refine ⟨q3, ?_, (hNo x 4).trans (f2 x hx).1⟩
          have := (eAt h6 hm q3 q1 hk).2.1
          rw [this]
          have := (eNat h6 q3).1.2.2.2.2.2.2.2.2.2
          exact nI_nm (by omega)) (fun x hx => (hNo x 4).trans ((f3 x 4 (by decide) (Or.inl hx)).trans (b4 x 4 (by decide) (by decide) (by decide))))
        rw [hle.1 0 (by decide), f6, b7 18 (by decide), hcnt, ← nI_add, Int32.add_comm (nI (mSr F (-1) n)), Int32.add_sub_cancel]
  · -- the row stays in the canal
    have hlv : mLv F a = false := by simpa using hlv
    have hl2 := of_decide_eq_false hlv
    rw [aN, hu.1, hm1] at hl2
    obtain ⟨k', hk1, hk2, hk3⟩ : ∃ k', k' + 1 < m ∧ nI k + (if nI (nU F a) = 1 then -1 else 1) = nI k' ∧ k + 1 - nU F a = k' + nU F a := by
      by_cases hu1 : nU F a = 1
      · rw [hu1, if_pos (show nI 1 = 1 from rfl)] at hl2
        have hk0 : ¬ k = 0 := fun q => hl2 (by rw [q]; rfl)
        refine ⟨k - 1, by omega, ?_, by omega⟩
        rw [hu1, if_pos (show nI 1 = 1 from rfl), Int32.add_neg_eq_sub, nI_m1 (by omega)]
      · have hu0 : nU F a = 0 := by omega
        rw [hu0, if_neg (show ¬ nI 0 = 1 by decide)] at hl2
        have hk0 : ¬ k + 1 = m - 1 := fun q => hl2 (by rw [← q]; rfl)
        refine ⟨k + 1, by omega, ?_, by omega⟩
        rw [hu0, if_neg (show ¬ nI 0 = 1 by decide), nI_1]
    have hval : ∀ x, x ∈ R → G1 35 x + (if nI (nU F a) = 1 then -1 else 1) = nI k' ∧ G1 33 x = nI (nU F a) := fun x hx => by
      obtain ⟨q1, q2, -⟩ := hR35 x hx
      rw [b3 35 (by decide) (by decide), b3 33 (by decide) (by decide), q1, q2]
      exact ⟨hk2, rfl⟩
    obtain ⟨g1, g2, g3⟩ := qMv_st (v := nI k') (u := nI (nU F a)) R G1 e1 e2 hval (nI_pos' (by omega)) (by rw [b3 8 (by decide) (by decide), s5]; exact nI_lt (by omega) (by omega))
    obtain ⟨f1, f2, f3, f4, f5⟩ := mLr_st (mNx F a) R F1 e2
    rw [hlv] at hle ⊢
    have hs := eLe_s (B := B) (p := R.length) h1' h2 h3 hkm hm (G2 := qMv R.length G1 (eHd R)) (F2 := mLr false (mNx F a) R F1) (fun c hc => (g1 c (by omega) (by omega)).trans (b3 c (by omega) (by omega))) ((g1 25 (by decide) (by decide)).trans (b3 25 (by decide) (by decide))) (fun i hi => (f5 i hi).trans (b5 i hi))
    generalize hH : zup (zup (qMv R.length G1 (eHd R)) 22 k (qMv R.length G1 (eHd R) 22 k + nI R.length)) 24 k (qMv R.length G1 (eHd R) 24 k + 1) = H at hs ⊢
    have hHc : ∀ c, c ≠ 22 → c ≠ 24 → H c = qMv R.length G1 (eHd R) c := fun c q1 q2 => by rw [← hH, zup_ne _ _ _ q2, zup_ne _ _ _ q1]
    generalize hN : mLe (mLr false (mNx F a) R F1) k R.length = N at hs hle ⊢
    have hNo : ∀ x w, mOf N x w = mOf (mLr false (mNx F a) R F1) x w := fun x w => hle.2 _ (by omega) (by omega)
    have hH37 : ∀ x, x ∈ R → H 37 x = nI (t + 1) := fun x hx => by
      rw [hHc 37 (by decide) (by decide), (g2 x hx).2, b3 0 (by decide) (by decide), p7, s0, nI_1]
    refine ⟨eCut cv a R.length, ⟨hs.1, hs.2.1, hs.2.2, ?_, ?_⟩, ?_, ?_⟩
    · refine eSh_R (M := F 1) (N := N 1) R (Nat.le_refl _) h6 (fun s hs2 hsR => ⟨fun c hc => ?_, fun w hw => ?_⟩) (fun s hs2 hsR => ⟨⟨fun c hc => ?_, fun w hw => ?_⟩, ?_, Or.inr ⟨k', t + 1, nU F a, ?_, hu.2, hk1, ?_, ?_, ?_, Nat.le_refl _, ?_⟩⟩)
      · by_cases h8 : c = 35
        · rw [h8, hHc 35 (by decide) (by decide), (g3 s hsR).1, b3 35 (by decide) (by decide)]
        · by_cases h9 : c = 37
          · rw [h9, hHc 37 (by decide) (by decide), (g3 s hsR).2, b3 37 (by decide) (by decide)]
          · rw [hHc c (by omega) (by omega), g1 c h8 h9, b3 c (by omega) (by omega)]
      · exact (hNo s w).trans ((f3 s w (by omega) (Or.inl hsR)).trans (b4 s w (by omega) (by omega) (by omega)))
      · rw [hHc c (by omega) (by omega), g1 c (by omega) (by omega), b3 c (by omega) (by omega)]
      · exact (hNo s w).trans ((f3 s w (by omega) (Or.inr (by omega))).trans (b4 s w (by omega) (by omega) (by omega)))
      · rw [hHc 39 (by decide) (by decide), g1 39 (by decide) (by decide), b3 39 (by decide) (by decide)]
        exact ((h6 s hs2).1.2.2.2.2).trans (((hNo s 8).trans ((f3 s 8 (by decide) (Or.inr (by decide))).trans (b4 s 8 (by decide) (by decide) (by decide)))).symm)
      · have q := (eNat h6 hs2).1.2.2.2.2.2.2.2.2.1
        have q2 := (hR35 s hsR).2.1
        rw [(eNat h6 hs2).2.2.2.2] at q2
        exact q.trans q2
      · rw [hHc 35 (by decide) (by decide)]
        exact (g2 s hsR).1
      · exact (hNo s 4).trans ((f2 s hsR).1.trans (by rw [aN, hk3]))
      · rw [hH37 s hsR]
        exact ((hNo s 5).trans ((f2 s hsR).2.1.trans (by rw [b5 0 (by decide), s0, nI_1]))).symm
      · exact (hNo s 5).trans ((f2 s hsR).2.1.trans (by rw [b5 0 (by decide), s0, nI_1]))
    · refine ⟨b1.1, fun b hb => ?_⟩
      by_cases hba : b = a
      · subst hba
        rw [b2]
        refine ⟨⟨eChn_c _ (fun x _ => by rw [hHc 43 (by decide) (by decide), g1 43 (by decide) (by decide)]) e1, e2⟩, ?_, fun i x hi => ?_, fun x hx => ?_, fun q => ?_⟩
        · rw [b2] at e3
          exact e3
        · have q := e4 i x hi
          have q6 : eO (N 1) x 6 = eO (F1 1) x 6 := (hNo x 6).trans (f3 x 6 (by decide) (Or.inr (by decide)))
          have q7 : eO (N 1) x 7 = eO (F1 1) x 7 := (hNo x 7).trans (f3 x 7 (by decide) (Or.inr (by decide)))
          rw [q6, q7]
          exact q
        · have q := e5 x hx
          have q3 : eO (N 1) x 3 = eO (F1 1) x 3 := (hNo x 3).trans (f3 x 3 (by decide) (Or.inr (by decide)))
          have q4 : eO (N 1) b 3 = eO (F1 1) b 3 := (hNo b 3).trans (f3 b 3 (by decide) (Or.inr (by decide)))
          rw [q3, q4, hHc 41 (by decide) (by decide), g1 41 (by decide) (by decide), hHc 35 (by decide) (by decide), (g2 x hx).1, (g2 b b8).1]
          exact ⟨q.1, rfl, q.2.2⟩
        · rw [hHc 35 (by decide) (by decide), (g2 b b8).1] at q
          exact absurd q (nI_nm (by omega))
      · refine eCv1_same (b1.2 b hb) (fun x hx => ?_)
        have hxR : ¬ x ∈ R := fun q => hba ((hsu x (eCv_lt b1 hb hx) b hb hx).mp q)
        refine ⟨?_, ?_, ?_, (hNo x 6).trans (f3 x 6 (by decide) (Or.inl hxR)), (hNo x 7).trans (f3 x 7 (by decide) (Or.inl hxR)), (hNo x 3).trans (f3 x 3 (by decide) (Or.inl hxR))⟩
        · rw [hHc 43 (by decide) (by decide), g1 43 (by decide) (by decide)]
        · rw [hHc 41 (by decide) (by decide), g1 41 (by decide) (by decide)]
        · rw [hHc 35 (by decide) (by decide), (g3 x hxR).1]
    · intro s hs2 hs35
      by_cases hsR : s ∈ R
      · refine ⟨?_, fun b hb hsb => ?_⟩
        · rw [hle.1 9 (by decide), (f2 s hsR).2.2, hH37 s hsR]
          exact ⟨fun _ => rfl, fun _ => by decide⟩
        · rw [(hsu s hs2 b hb hsb).mp hsR, hH37 s hsR, hH37 a b8]
      · have e37 : ∀ x, ¬ x ∈ R → H 37 x = G 37 x := fun x hx => by rw [hHc 37 (by decide) (by decide), (g3 x hx).2, b3 37 (by decide) (by decide)]
        rw [hHc 35 (by decide) (by decide), (g3 s hsR).1, b3 35 (by decide) (by decide)] at hs35
        refine ⟨?_, fun b hb hsb => ?_⟩
        · rw [e37 s hsR, hle.1 9 (by decide), f4 s hsR, b6 9 (by decide) (by decide) (by decide)]
          exact (hT s hs2 hs35).1
        · rw [e37 s hsR, e37 b (hbR s b hb hsb hsR)]
          exact hTc s hs2 hs35 b hb hsb
    · refine ⟨fun c q0 q1 q7 q8 q9 => ?_, fun i q14 q16 q18 => ?_, ?_⟩
      · rw [hle.1 c q1, f1 c q1 q9, b6 c q0 q1 q8]
      · rw [hle.1 0 (by decide), f1 0 (by decide) (by decide), b7 i q16]
      · have hcnt := mSr_c F N (-1) n (fun s hs2 => by
          by_cases hsR : s ∈ R
          · have q : mOf N s 4 = nI (k + 1 - nU F a) := (hNo s 4).trans ((f2 s hsR).1.trans aN)
            obtain ⟨q1, q2, q3⟩ := hR35 s hsR
            have q4 := (eAt h6 hm q3 q1 hk).2.1
            have q5 := (eNat h6 q3).1.2.2.2.2.2.2.2.2.2
            rw [q, q4]
            exact ⟨fun z => absurd z (nI_nm (by omega)), fun z => absurd z (nI_nm (by omega))⟩
          · rw [show mOf N s 4 = mOf F s 4 from (hNo s 4).trans ((f3 s 4 (by decide) (Or.inl hsR)).trans (b4 s 4 (by decide) (by decide) (by decide)))])
        rw [hle.1 0 (by decide), f1 0 (by decide) (by decide), b7 18 (by decide), hcnt, Int32.sub_self, Int32.add_zero]
end ZEe
