/-! THE PURE PART: a lock's turn -/
section ZEf
set_option maxRecDepth 20000
theorem eI3 (a f g x : Int32) : a + (g - f) + x = a + (x + g - f) := by
  rw [Int32.add_assoc, Int32.sub_eq_add_neg, Int32.sub_eq_add_neg, Int32.add_comm (g + -f) x, Int32.add_assoc x]
theorem eFr_trans {F G H : zF} {n : Nat} (h1 : eFr F G n) (h2 : eFr G H n) : eFr F H n := by
  refine ⟨fun c a b c1 d e => (h2.1 c a b c1 d e).trans (h1.1 c a b c1 d e), fun i a b c => (h2.2.1 i a b c).trans (h1.2.1 i a b c), ?_⟩
  rw [h2.2.2, h1.2.2, eI3, Int32.sub_add_cancel]
theorem eFr_x {F H : zF} {n : Nat} (h : ∀ c, c ≠ 1 → H c = F c) (h4 : ∀ s, mOf H s 4 = mOf F s 4) : eFr F H n := by
  refine ⟨fun c _ q _ _ _ => h c q, fun i _ _ _ => by rw [h 0 (by decide)], ?_⟩
  rw [mSr_c F H (-1) n (fun s _ => by rw [h4 s]), h 0 (by decide), Int32.sub_self, Int32.add_zero]
theorem eFr_ag {F H : zF} {n : Nat} (h : eAg F H) : eFr F H n := by
  refine ⟨fun c q0 q1 q7 q8 _ => h.2.2.2 c q0 q7 q8, fun i q1 q2 _ => h.2.2.1 i q1 q2, ?_⟩
  rw [mSr_c F H (-1) n (fun s _ => by unfold mOf; rw [h.1]), h.2.2.1 18 (by decide) (by decide), Int32.sub_self, Int32.add_zero]
theorem eC_mono {G : zF} {M : Nat → Int32} {n m t T T' B B' : Nat} {cv : Nat → List Nat} (hT : T ≤ T') (hB : B ≤ B') (h : eC G M n m t T B cv) : eC G M n m t T' B' cv := by
  obtain ⟨h1, h2, h3, h6, h7⟩ := h
  refine ⟨h1, ⟨fun r hr => ?_, h2.2⟩, h3, fun s hs => ?_, h7⟩
  · obtain ⟨e, a, l, w, g1, g2, g3, g4, g5, g6⟩ := h2.1 r hr
    exact ⟨e, a, l, w, g1, g2, g3, g4, by omega, g6⟩
  · obtain ⟨e, z, d, r, u, g1, g2, g3⟩ := h6 s hs
    refine ⟨e, z, d, r, u, g1, g2, ?_⟩
    rcases g3 with g3 | ⟨k, x, r1, r2, r3, r4, r5, r6⟩
    · exact Or.inl g3
    · exact Or.inr ⟨k, x, r1, r2, r3, r4, by omega, r6⟩
theorem mRw_g {F G : zF} (e : ∀ x w, mOf G x w = mOf F x w) (len : Int32) : ∀ L a, mRw G len L a = mRw F len L a
  | [], _ => rfl
  | s :: t, a => by
    unfold mRw
    rw [e, mRw_g e len t]
theorem mRow_g {F G : zF} (e : ∀ x w, mOf G x w = mOf F x w) {k : Nat} (e0 : mLP G k 0 = mLP F k 0) (L : List Nat) : mRow G k L = mRow F k L := by
  unfold mRow
  rw [e0, mRw_g e]
/-- what the reference asks of a lock -/
theorem eWp {G F : zF} {n m t T B : Nat} {cv : Nat → List Nat} (hC : eC G (F 1) n m t T B cv) {k : Nat} (hk : k + 1 < m) : mWp F n k cv := by
  obtain ⟨h1, h2, h3, h6, h7⟩ := hC
  obtain ⟨⟨hn, hm, hnm, ht⟩, ⟨s0, s1, s2, s3, s4, s5⟩, -, ⟨p, hp1, hp2, hp⟩, -, -⟩ := h1
  obtain ⟨-, -, -, -, -, -, len, c, nb, f, b, lb, ⟨lk0, lk1, lk2, lk3, lk4⟩, -⟩ := eLo_v h3 hm hk
  have ha : ∀ r, r < m → ¬ F 1 (10 + 3 * r) = 0 := fun r hr => by
    obtain ⟨-, a, l, w, g1, g2, g3, g4, g5, g6, -⟩ := h2.1 r hr
    rw [g6]
    exact nI_ne0 (by omega) (by omega)
  refine ⟨hn, s2, by rw [hp]; exact nI_ne0 (by omega) (by omega), ha k (by omega), ha (k + 1) hk, ⟨c, nb, b, lk1, lb.2.2.2.1, lk2, lb.2.2.2.2.1, lk4, lb.2.2.2.2.2.2⟩, fun a hh => ?_⟩
  exact eCv_m hn h7 (mOrd_lt F n _ n a hh)
theorem eLast {G F : zF} {n m t B : Nat} {cv : Nat → List Nat} (hC : eC G (F 1) n m t (t + 1) B cv) (hB : B < 2 ^ 29) (hT : eTi G F n t cv) {a k : Nat} (ha : a < n) (hf : mOf F a 6 = nI a) (hk : k < 2 ^ 30) (h35 : G 35 a = nI k) (hrow : mRow F k (cv a) ≠ []) :
    ∃ cv', eC (qT3 G (nI a) (nI k)) (mLks F a n k (cv a) 1) n m t (t + 1) B cv' ∧ eTi (qT3 G (nI a) (nI k)) (mLks F a n k (cv a)) n t cv' ∧ eFr F (mLks F a n k (cv a)) n := by
  have hn := hC.1.1.1
  have hh := (eCv_hd hn hC.2.2.2.2 ha hf).2.2
  have h0 := (eRules hC hB ha hh hk h35).2
  have hL : ∀ c, c < 44 → (qLook G (nI a) (qLen G (nI k))) c = G c := fun c hc => qLook_o _ _ _ (by omega)
  have hC2 := eC_q (H := qLook G (nI a) (qLen G (nI k))) (N := F 1) (eQ_44 hL) (eM_r _) hC
  have h1 := eLocks hC2 (eTi_c hL hT) ha hf hk (by rw [hL 35 (by decide)]; exact h35) hrow
  unfold qT3
  rw [h0]
  exact h1
theorem eTi_t {G H F N : zF} {n t : Nat} {cv : Nat → List Nat} (h35 : H 35 = G 35) (h37 : H 37 = G 37) (h9 : N 9 = F 9) (hT : eTi G F n t cv) : eTi H N n t cv := by
  unfold eTi
  rw [h35, h37, h9]
  exact hT
theorem eTurn {G F : zF} {n m t B : Nat} {cv : Nat → List Nat} (hC : eC G (F 1) n m t (t + 1) B cv) (hB : B + 60 < 2 ^ 29) (hT : eTi G F n t cv) {k : Nat} (hk : k + 1 < m) :
    ∃ cv', eC (qTT G (nI k)) (mWk F n k cv 1) n m t (t + 1) (B + 60) cv' ∧ eTi (qTT G (nI k)) (mWk F n k cv) n t cv' ∧ eFr F (mWk F n k cv) n := by
  have hn := hC.1.1.1
  have hm := hC.1.1.2.1
  have hG25 : (G 25 9).toNatClampNeg = n := by rw [hC.1.2.1.2.2.2.2.1]; exact nI_clamp (by omega)
  have hS : ∀ c, c < 44 → (qCC (nI k) (qTb G (nI k)) G n).1 c = G c := fun c hc => qCC_o _ _ _ _ (by omega)
  have hz : eAg F (zls 7 14 F (mOrd F n (nI k) n)) := by
    have e : ∀ c, c ≠ 0 → c ≠ 7 → zls 7 14 F (mOrd F n (nI k) n) c = F c := fun c h5 h6 => by
      funext b
      unfold zls
      rw [if_neg (fun q => h6 q.1), if_neg (fun q => h5 q.1)]
    refine ⟨e 1 (by decide) (by decide), e 9 (by decide) (by decide), fun i h5 _ => ?_, fun c h5 h6 _ => e c h5 h6⟩
    unfold zls
    rw [if_neg (fun q => absurd q.1 (by decide)), if_neg (fun q => h5 q.2)]
  have hw := eWl (F := F) (n := n) (k := k) (cv := cv) (mOrd F n (nI k) n) _ hz
  unfold qTT
  rw [hG25]
  unfold mWk
  have hC1 := eC_q (H := (qCC (nI k) (qTb G (nI k)) G n).1) (N := F 1) (eQ_44 hS) (eM_r _) hC
  have hT1 := eTi_c hS hT
  rcases eChoose hC (by omega) hT hk with ⟨h1, h2⟩ | ⟨a, h1, h2, h3, h4⟩
  · have hg := hw.1 h1
    rw [if_pos h2]
    refine ⟨cv, ?_, eTi_t rfl rfl hg.2.1 hT1, eFr_ag hg⟩
    rw [hg.1]
    exact eC_mono (Nat.le_refl _) (by omega) hC1
  · obtain ⟨F', hg, he⟩ := hw.2 a h1
    rw [he, h2, if_neg (nI_nm (by have := mOrd_lt F n _ n a h3; omega))]
    generalize (qCC (nI k) (qTb G (nI k)) G n).1 = G0 at hC1 hT1
    obtain ⟨han, hf, h5, h6⟩ := (mOrd_mem F n _ n a).mp h3
    obtain ⟨g1, g2, g3⟩ := (eGoB_iff F n k cv a).mp h4
    have h35 : G0 35 a = nI k := (eSh_v hC1.2.2.2.1 hn hm han).2.2.2.2.2.2.2.1.symm.trans ((eSh_v hC1.2.2.2.1 hn hm han).2.2.2.2.2.1.trans h6)
    have hrow : mRow F k (cv a) ≠ [] := fun q => by
      unfold mWr mRu at g2
      rw [q] at g2
      dsimp only at g2
      exact absurd g2 (by decide)
    have hfr := eFr_ag (n := n) hg
    have eO' : ∀ x w, mOf F' x w = mOf F x w := fun x w => by unfold mOf; rw [hg.1]
    have eP' : ∀ w, mLP F' k w = mLP F k w := fun w => by unfold mLP; rw [hg.1]
    have hC2 : eC G0 (F' 1) n m t (t + 1) B cv := by rw [hg.1]; exact hC1
    have hT2 : eTi G0 F' n t cv := eTi_t rfl rfl hg.2.1 hT1
    have hu := (eNat hC1.2.2.2.1 han).1.2.2.2.2.2.2.2.2
    have hup : qUp G0 (nI a) = mOf F a 3 := (eSh_v hC1.2.2.2.1 hn hm han).2.2.2.1
    obtain ⟨-, -, -, l4, -, -, len, c, nb, f, b, lb, ⟨-, -, -, lk3, -⟩, -, -⟩ := eLo_v hC1.2.2.1 hm hk
    have hk30 : k < 2 ^ 30 := by omega
    have hfu : ∀ {X Y : zF}, eC X (Y 1) n m t (t + 1) B cv → qFu X (nI k) = mLP Y k 3 := fun h => (eLo_v h.2.2.1 hm hk).2.2.2.1
    -- what filling and emptying leave
    have keepF : ∀ {X Y : zF}, eTi X Y n t cv → X 35 a = nI k → (∀ x w, mOf Y x w = mOf F x w) → mLP Y k 0 = mLP F k 0 → (∀ c, c ≠ 1 → mFx Y k c = Y c) →
        eTi (qTC X (nI k)) (mFx Y k) n t cv ∧ qTC X (nI k) 35 a = nI k ∧ (∀ x w, mOf (mFx Y k) x w = mOf F x w) ∧ mLP (mFx Y k) k 0 = mLP F k 0 ∧ eFr Y (mFx Y k) n := fun {X Y} q1 q2 q3 q4 q5 => by
      have q6 : ∀ x w, mOf (mFx Y k) x w = mOf Y x w := fun x w => mFil_at _ _ _ (by omega) (by omega) (by omega) (by omega) (by omega)
      refine ⟨eTi_t (qTC_o _ _ (by decide)) (qTC_o _ _ (by decide)) (q5 9 (by decide)) q1, ?_, fun x w => (q6 x w).trans (q3 x w), (mFil_at _ _ _ (by omega) (by omega) (by omega) (by omega) (by omega)).trans q4, eFr_x q5 (fun s => q6 s 4)⟩
      rw [qTC_o _ _ (by decide)]
      exact q2
    have keepE : ∀ {X Y : zF}, eTi X Y n t cv → X 35 a = nI k → (∀ x w, mOf Y x w = mOf F x w) → mLP Y k 0 = mLP F k 0 → (∀ c, c ≠ 1 → mEx Y k c = Y c) →
        eTi (qTC X (nI k)) (mEx Y k) n t cv ∧ qTC X (nI k) 35 a = nI k ∧ (∀ x w, mOf (mEx Y k) x w = mOf F x w) ∧ mLP (mEx Y k) k 0 = mLP F k 0 ∧ eFr Y (mEx Y k) n := fun {X Y} q1 q2 q3 q4 q5 => by
      have q6 : ∀ x w, mOf (mEx Y k) x w = mOf Y x w := fun x w => mEmp_at _ _ _ _ _ (by omega) (by omega) (by omega)
      refine ⟨eTi_t (qTC_o _ _ (by decide)) (qTC_o _ _ (by decide)) (q5 9 (by decide)) q1, ?_, fun x w => (q6 x w).trans (q3 x w), (mEmp_at _ _ _ _ _ (by omega) (by omega) (by omega)).trans q4, eFr_x q5 (fun s => q6 s 4)⟩
      rw [qTC_o _ _ (by decide)]
      exact q2
    have last : ∀ {X Y : zF} {B' : Nat}, eC X (Y 1) n m t (t + 1) B' cv → B' ≤ B + 60 → eTi X Y n t cv → X 35 a = nI k → (∀ x w, mOf Y x w = mOf F x w) → mLP Y k 0 = mLP F k 0 → eFr F Y n →
        ∃ cv', eC (qT3 X (nI a) (nI k)) (mLks Y a n k (cv a) 1) n m t (t + 1) (B + 60) cv' ∧ eTi (qT3 X (nI a) (nI k)) (mLks Y a n k (cv a)) n t cv' ∧ eFr F (mLks Y a n k (cv a)) n := fun {X Y B'} q1 qB q2 q3 q4 q5 q6 => by
      obtain ⟨cv', r1, r2, r3⟩ := eLast q1 (by omega) q2 han (by rw [q4]; exact hf) hk30 q3 (by rw [mRow_g q4 q5]; exact hrow)
      exact ⟨cv', eC_mono (Nat.le_refl _) qB r1, r2, eFr_trans q6 r3⟩
    have hkeep0 := last hC2
    unfold eAct
    rw [eO', eP']
    unfold qT2
    rw [hup]
    by_cases hu1 : nU F a = 1
    · have hu3 : mOf F a 3 = 1 := by rw [hu.1, hu1]; rfl
      rw [if_neg (show ¬ mOf F a 3 = 0 by rw [hu3]; decide)]
      by_cases hf1 : mLP F k 3 = 1
      · -- up, full: emptied first
        have hq1 : qT1 G0 (nI a) (nI k) = qTC G0 (nI k) := by
          unfold qT1
          rw [if_pos (by rw [l4, hf1, hup, hu3])]
        rw [hq1, if_pos hf1]
        obtain ⟨e1, e2, e3⟩ := eEmpC hC2 hk (by rw [eP']; exact hf1) (by omega)
        obtain ⟨k1, k2, k3, k4, k5⟩ := keepE hT2 h35 eO' (eP' 0) e3
        have hfu2 : qFu (qTC G0 (nI k)) (nI k) = mLP (mEx F' k) k 3 := (eLo_v e1.2.2.1 hm hk).2.2.2.1
        have hlw : qCFU (qTC G0 (nI k)) (nI k) ↔ ¬ mLow (mEx F' k) k := by
          have r1 := (eLck e1.2.2.1 hm hk).1
          have r2 : qW (qTC G0 (nI k)) (nI k) = mWa (mEx F' k) k := by
            obtain ⟨⟨-, -, r3⟩, -⟩ := e1.2.1.1 k (by omega)
            exact (zrd_k _ (by omega) (by decide)).trans r3
          unfold qCFU qLkU
          rw [if_neg (by rw [hfu2, e2]; decide), r1, r2]
          exact Int32.not_lt.symm
        unfold mUp
        by_cases hl : mLow (mEx F' k) k
        · rw [if_pos ⟨hu3, fun q => hlw.mp q hl⟩, if_pos hl]
          exact ⟨cv, e1, k1, eFr_trans hfr k5⟩
        · rw [if_neg (fun q => q.2 (hlw.mpr hl)), if_neg hl]
          obtain ⟨f1, f2, f3⟩ := eFillC e1 hk e2 hl (by omega)
          obtain ⟨m1, m2, m3, m4, m5⟩ := keepF k1 k2 k3 k4 f3
          exact last f1 (Nat.le_refl _) m1 m2 m3 m4 (eFr_trans (eFr_trans hfr k5) m5)
      · -- up, empty
        have hf0 : mLP F k 3 = 0 := by
          rw [lk3] at hf1 ⊢
          rcases Nat.lt_or_ge f 1 with q | q
          · rw [show f = 0 by omega]; rfl
          · exact absurd (by rw [show f = 1 by omega]; rfl) hf1
        have hq1 : qT1 G0 (nI a) (nI k) = G0 := by
          unfold qT1
          rw [if_neg (by rw [l4, hf0, hup, hu3]; decide)]
        rw [hq1, if_neg hf1]
        have hlw : qCFU G0 (nI k) ↔ ¬ mLow F' k := by
          have r1 := (eLck hC2.2.2.1 hm hk).1
          have r2 : qW G0 (nI k) = mWa F' k := by
            obtain ⟨⟨-, -, r3⟩, -⟩ := hC2.2.1.1 k (by omega)
            exact (zrd_k _ (by omega) (by decide)).trans r3
          unfold qCFU qLkU
          rw [if_neg (by rw [l4, hf0]; decide), r1, r2]
          exact Int32.not_lt.symm
        unfold mUp
        by_cases hl : mLow F' k
        · rw [if_pos ⟨hu3, fun q => hlw.mp q hl⟩, if_pos hl]
          exact ⟨cv, eC_mono (Nat.le_refl _) (by omega) hC2, hT2, hfr⟩
        · rw [if_neg (fun q => q.2 (hlw.mpr hl)), if_neg hl]
          obtain ⟨f1, f2, f3⟩ := eFillC hC2 hk (by rw [eP']; exact hf0) hl (by omega)
          obtain ⟨m1, m2, m3, m4, m5⟩ := keepF hT2 h35 eO' (eP' 0) f3
          exact last f1 (by omega) m1 m2 m3 m4 (eFr_trans hfr m5)
    · have hu3 : mOf F a 3 = 0 := by rw [hu.1, show nU F a = 0 by omega]; rfl
      rw [if_pos hu3, if_neg (fun q => absurd (hu3.symm.trans q.1) (by decide))]
      by_cases hf1 : mLP F k 3 = 1
      · -- down, full
        have hq1 : qT1 G0 (nI a) (nI k) = G0 := by
          unfold qT1
          rw [if_neg (by rw [l4, hf1, hup, hu3]; decide)]
        rw [hq1, if_neg (show ¬ mLP F k 3 = 0 by rw [hf1]; decide)]
        obtain ⟨e1, e2, e3⟩ := eEmpC hC2 hk (by rw [eP']; exact hf1) (by omega)
        obtain ⟨k1, k2, k3, k4, k5⟩ := keepE hT2 h35 eO' (eP' 0) e3
        exact last e1 (Nat.le_refl _) k1 k2 k3 k4 (eFr_trans hfr k5)
      · -- down, empty: filled, then emptied
        have hf0 : mLP F k 3 = 0 := by
          rw [lk3] at hf1 ⊢
          rcases Nat.lt_or_ge f 1 with q | q
          · rw [show f = 0 by omega]; rfl
          · exact absurd (by rw [show f = 1 by omega]; rfl) hf1
        have hq1 : qT1 G0 (nI a) (nI k) = qTC G0 (nI k) := by
          unfold qT1
          rw [if_pos (by rw [l4, hf0, hup, hu3])]
        rw [hq1, if_pos hf0]
        have hl : ¬ mLow F' k := fun q => g3 ⟨hu3, hf0, (mLow_c hg.1 k).mp q⟩
        obtain ⟨f1, f2, f3⟩ := eFillC hC2 hk (by rw [eP']; exact hf0) hl (by omega)
        obtain ⟨m1, m2, m3, m4, m5⟩ := keepF hT2 h35 eO' (eP' 0) f3
        obtain ⟨e1, e2, e3⟩ := eEmpC f1 hk f2 (by omega)
        obtain ⟨k1, k2, k3, k4, k5⟩ := keepE m1 m2 m3 m4 e3
        exact last e1 (Nat.le_refl _) k1 k2 k3 k4 (eFr_trans (eFr_trans hfr m5) k5)
end ZEf
