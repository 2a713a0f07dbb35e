/-! THE PURE PART: the convoy that is chosen -/
section ZE7
set_option maxRecDepth 20000
theorem mRw_c {F G : zF} (e : G 1 = F 1) (len : Int32) : ∀ L a, mRw G len L a = mRw F len L a
  | [], _ => rfl
  | s :: t, a => by
    have h1 : mOf G s 0 = mOf F s 0 := by unfold mOf; rw [e]
    unfold mRw
    rw [h1, mRw_c e len t]
theorem mRow_c {F G : zF} (e : G 1 = F 1) (k : Nat) (L : List Nat) : mRow G k L = mRow F k L := by
  unfold mRow
  rw [mRw_c e, show mLP G k 0 = mLP F k 0 by unfold mLP; rw [e]]
theorem mLev_c {F G : zF} (e : G 1 = F 1) (r : Nat) : mLev G r = mLev F r := by
  unfold mLev mWa
  rw [e]
theorem mDry_c {F G : zF} (e : G 1 = F 1) (r : Nat) : mDry G r = mDry F r := by
  unfold mDry
  rw [mLev_c e, e]
theorem mRl_c {F G : zF} (e : G 1 = F 1) (h k : Nat) (low : Int32) : ∀ R a z, mRl G h k low R a z = mRl F h k low R a z
  | [], a, z => by
    show mRf G h k a z = mRf F h k a z
    unfold mRf
    rw [mDry_c e, mWd_c e, e, show mLP G k 0 = mLP F k 0 by unfold mLP; rw [e]]
  | s :: t, a, z => by
    have h0 : mOf G s 0 = mOf F s 0 := by unfold mOf; rw [e]
    have h1 : mOf G s 1 = mOf F s 1 := by unfold mOf; rw [e]
    have h2 : mOf G s 2 = mOf F s 2 := by unfold mOf; rw [e]
    unfold mRl
    rw [h0, h1, h2, mRl_c e h k low t]
theorem mRu_c {F G : zF} (e : G 1 = F 1) (h k r t : Nat) (L : List Nat) : mRu G h k r t L = mRu F h k r t L := by
  unfold mRu
  rw [mRow_c e, mLev_c e, mLev_c e]
  split
  · rfl
  · exact mRl_c e h k _ _ _ _
theorem mNx_c {F G : zF} (e : G 1 = F 1) (s : Nat) : mNx G s = mNx F s := by
  unfold mNx mOf
  rw [e]
theorem mWr_c {F G : zF} (e : G 1 = F 1) (h k : Nat) (L : List Nat) : mWr G h k L = mWr F h k L := by
  unfold mWr
  rw [mRu_c e, mNx_c e, show mOf G h 4 = mOf F h 4 by unfold mOf; rw [e]]
theorem mWasB_c {F G : zF} (e : G 1 = F 1) (e9 : G 9 = F 9) (n h : Nat) : mWasB G n h = mWasB F n h := by
  unfold mWasB mOf
  rw [e, e9]
theorem mLow_c {F G : zF} (e : G 1 = F 1) (k : Nat) : mLow G k ↔ mLow F k := by
  unfold mLow mLc mWa mLP
  rw [e]
theorem qTb_c {G H : zF} (h : ∀ c, c < 44 → H c = G c) (l : Int32) : qTb H l = qTb G l := by
  unfold qTb
  simp only [qCBR, qFu, qLk, qCh, qInB, qFb, qQu, qW, h 18 (by decide), h 12 (by decide), h 20 (by decide), h 14 (by decide), h 7 (by decide)]
theorem eTi_c {G H F : zF} {n t : Nat} {cv : Nat → List Nat} (h : ∀ c, c < 44 → H c = G c) (hT : eTi G F n t cv) : eTi H F n t cv := by
  unfold eTi
  rw [h 35 (by decide), h 37 (by decide)]
  exact hT
theorem eChs {G F : zF} {n m t B : Nat} {cv : Nat → List Nat} (hC : eC G (F 1) n m t (t + 1) B cv) (hB : B < 2 ^ 29) (hT : eTi G F n t cv) {k : Nat} (hk : k + 1 < m) : ∀ j, j ≤ n →
    ((qCC (nI k) (qTb G (nI k)) G j).2.1 = -1 ∧ ∀ i, i < j → ¬ (i ∈ mOrd F n (nI k) n ∧ eGoB F n k cv i = true)) ∨
    ∃ c, c < j ∧ (qCC (nI k) (qTb G (nI k)) G j).2.1 = nI c ∧ (qCC (nI k) (qTb G (nI k)) G j).2.2 = mPr F n c ∧ c ∈ mOrd F n (nI k) n ∧ eGoB F n k cv c = true ∧ ∀ i, i < j → i ∈ mOrd F n (nI k) n → eGoB F n k cv i = true → i = c ∨ eBf F n c i
  | 0, _ => Or.inl ⟨rfl, fun i hi => absurd hi (Nat.not_lt_zero i)⟩
  | j + 1, hj => by
    have ih := eChs hC hB hT hk j (by omega)
    have hS : ∀ c, c < 44 → (qCC (nI k) (qTb G (nI k)) G j).1 c = G c := fun c hc => qCC_o _ _ _ _ (by omega)
    generalize hSe : qCC (nI k) (qTb G (nI k)) G j = S at ih hS
    have hC1 := eC_q (H := S.1) (N := F 1) (eQ_44 hS) (eM_r _) hC
    have hT1 := eTi_c hS hT
    have hL : ∀ c, c < 44 → (qLook S.1 (nI j) (qLen S.1 (nI k))) c = S.1 c := fun c hc => qLook_o _ _ _ (by omega)
    have hC2 := eC_q (H := qLook S.1 (nI j) (qLen S.1 (nI k))) (N := F 1) (eQ_44 hL) (eM_r _) hC1
    have hcd := eCand hC1 hB hT1 hk (i := j) (by omega)
    rw [qTb_c hS] at hcd
    show ((qCC1 (nI k) (qTb G (nI k)) (qCC (nI k) (qTb G (nI k)) G j) (nI j)).2.1 = -1 ∧ _) ∨ ∃ c, _ ∧ (qCC1 (nI k) (qTb G (nI k)) (qCC (nI k) (qTb G (nI k)) G j) (nI j)).2.1 = nI c ∧ (qCC1 (nI k) (qTb G (nI k)) (qCC (nI k) (qTb G (nI k)) G j) (nI j)).2.2 = mPr F n c ∧ _
    rw [hSe]
    by_cases hgo : j ∈ mOrd F n (nI k) n ∧ eGoB F n k cv j = true
    · obtain ⟨h8, h9⟩ := hcd.mpr hgo
      obtain ⟨-, hf, h4, hlk⟩ := (mOrd_mem F n (nI k) n j).mp hgo.1
      have hn := hC.1.1.1
      have hm := hC.1.1.2.1
      have h35 : S.1 35 j = nI k := (eSh_v hC1.2.2.2.1 hn hm (show j < n by omega)).2.2.2.2.2.2.2.1.symm.trans h8.1.2
      have hhd := eCv_hd hn hC1.2.2.2.2 (show j < n by omega) hf
      obtain ⟨g1, g2, g3, g4, g5, x, g6, g7, g8⟩ := eAt hC1.2.2.2.1 hm (show j < n by omega) h35 (by omega)
      have hx : x ≤ t := by
        have h10 := (eGoB_iff F n k cv j).mp hgo.2
        have h11 := eWas hn hC1.2.2.2.2 hT1 (show j < n by omega) hf (by rw [h35]; exact nI_nm (by omega))
        rcases Nat.lt_or_ge t x with h12 | h12
        · exact absurd (h11.mpr (by rw [g7, show x = t + 1 by omega])) h10.1
        · exact h12
      obtain ⟨v, v1, v2, v3⟩ := ePr hC2 (show j < n by omega) hhd.2.2 (by rw [hL 37 (by decide)]; exact g7) g8 hx h4
      have hpr : qPr (qLook S.1 (nI j) (qLen S.1 (nI k))) (nI j) = mPr F n j := v2.trans v3.symm
      unfold qCC1
      rw [if_pos h8, hpr]
      by_cases hb : S.2.1 = -1 ∨ S.2.2 < mPr F n j
      · rw [if_pos ⟨h9, hb⟩]
        refine Or.inr ⟨j, by omega, rfl, rfl, hgo.1, hgo.2, fun i hi hi2 hi3 => ?_⟩
        by_cases hij : i = j
        · exact Or.inl hij
        · refine Or.inr ?_
          rcases ih with ⟨i1, i2⟩ | ⟨c, i1, i2, i3, i4, i5, i6⟩
          · exact absurd ⟨hi2, hi3⟩ (i2 i (by omega))
          · have h12 : S.2.2 < mPr F n j := by
              rcases hb with hb | hb
              · rw [i2] at hb
                exact absurd hb (nI_nm (by omega))
              · exact hb
            rw [i3, Int32.lt_iff_toInt_lt] at h12
            have h13 := i6 i (by omega) hi2 hi3
            unfold eBf at h13 ⊢
            rcases h13 with h13 | h13
            · rw [h13]; omega
            · omega
      · rw [if_neg (fun q => hb q.2)]
        rcases ih with ⟨i1, i2⟩ | ⟨c, i1, i2, i3, i4, i5, i6⟩
        · exact absurd (Or.inl i1) hb
        · refine Or.inr ⟨c, by omega, i2, i3, i4, i5, fun i hi hi2 hi3 => ?_⟩
          by_cases hij : i = j
          · refine Or.inr ?_
            have h12 : ¬ S.2.2 < mPr F n j := fun q => hb (Or.inr q)
            rw [i3, Int32.lt_iff_toInt_lt] at h12
            unfold eBf
            rw [hij]
            omega
          · exact i6 i (by omega) hi2 hi3
    · have key : (qCC1 (nI k) (qTb G (nI k)) S (nI j)).2.1 = S.2.1 ∧ (qCC1 (nI k) (qTb G (nI k)) S (nI j)).2.2 = S.2.2 := by
        unfold qCC1
        by_cases h8 : qCan (qTb G (nI k)) S.1 (nI j) (nI k)
        · rw [if_pos h8, if_neg (fun q => hgo (hcd.mp ⟨h8, q.1⟩))]
          exact ⟨rfl, rfl⟩
        · rw [if_neg h8]
          exact ⟨rfl, rfl⟩
      rw [key.1, key.2]
      rcases ih with ⟨i1, i2⟩ | ⟨c, i1, i2, i3, i4, i5, i6⟩
      · refine Or.inl ⟨i1, fun i hi => ?_⟩
        by_cases hij : i = j
        · rw [hij]; exact hgo
        · exact i2 i (by omega)
      · refine Or.inr ⟨c, by omega, i2, i3, i4, i5, fun i hi hi2 hi3 => ?_⟩
        by_cases hij : i = j
        · rw [hij] at hi2 hi3
          exact absurd ⟨hi2, hi3⟩ hgo
        · exact i6 i (by omega) hi2 hi3
theorem eChoose {G F : zF} {n m t B : Nat} {cv : Nat → List Nat} (hC : eC G (F 1) n m t (t + 1) B cv) (hB : B < 2 ^ 29) (hT : eTi G F n t cv) {k : Nat} (hk : k + 1 < m) :
    ((mOrd F n (nI k) n).find? (eGoB F n k cv) = none ∧ (qCC (nI k) (qTb G (nI k)) G n).2.1 = -1) ∨ ∃ c, (mOrd F n (nI k) n).find? (eGoB F n k cv) = some c ∧ (qCC (nI k) (qTb G (nI k)) G n).2.1 = nI c ∧ c ∈ mOrd F n (nI k) n ∧ eGoB F n k cv c = true := by
  rcases eChs hC hB hT hk n (Nat.le_refl _) with ⟨h1, h2⟩ | ⟨c, h1, h2, h3, h4, h5, h6⟩
  · refine Or.inl ⟨List.find?_eq_none.mpr (fun x hx h3 => h2 x (mOrd_lt F n _ n x hx) ⟨hx, h3⟩), h1⟩
  · exact Or.inr ⟨c, eFind (mOrd_srt F n _ n) h4 h5 (fun i hi hi2 => h6 i (mOrd_lt F n _ n i hi) hi hi2), h2, h4, h5⟩
/-- what the reference's loop leaves as it was -/
def eAg (F G : zF) : Prop := G 1 = F 1 ∧ G 9 = F 9 ∧ (∀ i, i ≠ 14 → i ≠ 16 → G 0 i = F 0 i) ∧ ∀ c, c ≠ 0 → c ≠ 7 → c ≠ 8 → G c = F c
theorem eAg_zls8 {F G : zF} (h : eAg F G) (L : List Nat) : eAg F (zls 8 16 G L) := by
  obtain ⟨h1, h2, h3, h4⟩ := h
  have e : ∀ c, c ≠ 0 → c ≠ 8 → zls 8 16 G L c = G c := fun c h5 h6 => by
    funext b
    unfold zls
    rw [if_neg (fun q => h6 q.1), if_neg (fun q => h5 q.1)]
  refine ⟨(e 1 (by decide) (by decide)).trans h1, (e 9 (by decide) (by decide)).trans h2, fun i h5 h6 => ?_, fun c h5 h6 h7 => (e c h5 h7).trans (h4 c h5 h6 h7)⟩
  rw [← h3 i h5 h6]
  unfold zls
  rw [if_neg (fun q => absurd q.1 (by decide)), if_neg (fun q => h6 q.2)]
def eAct (n k : Nat) (cv : Nat → List Nat) (h : Nat) (G : zF) : zF := if mOf G h 3 = 0 then (if mLP G k 3 = 0 then mLks (mEx (mFx G k) k) h n k (cv h) else mLks (mEx G k) h n k (cv h)) else if mLP G k 3 = 1 then mUp n k (cv h) h (mEx G k) else mUp n k (cv h) h G
theorem eWl {F : zF} {n k : Nat} {cv : Nat → List Nat} : ∀ (L : List Nat) (G : zF), eAg F G → (L.find? (eGoB F n k cv) = none → eAg F (mWl n k cv L G)) ∧ ∀ c, L.find? (eGoB F n k cv) = some c → ∃ G', eAg F G' ∧ mWl n k cv L G = eAct n k cv c G'
  | [], G, hg => ⟨fun _ => hg, fun c h => nomatch h⟩
  | h :: t, G, hg => by
    have hz := eAg_zls8 hg (mRow G k (cv h))
    have ih1 := eWl (n := n) (k := k) (cv := cv) t G hg
    have ih2 := eWl (n := n) (k := k) (cv := cv) t (zls 8 16 G (mRow G k (cv h))) hz
    have e1 := mWasB_c hg.1 hg.2.1 n h
    have e2 := mWr_c hg.1 h k (cv h)
    have e3 : mOf G h 3 = mOf F h 3 := by unfold mOf; rw [hg.1]
    have e4 : mLP G k 3 = mLP F k 3 := by unfold mLP; rw [hg.1]
    have e5 := mLow_c hg.1 k
    have e6 : mOf (zls 8 16 G (mRow G k (cv h))) h 3 = mOf F h 3 := by unfold mOf; rw [hz.1]
    have e7 : mLP (zls 8 16 G (mRow G k (cv h))) k 3 = mLP F k 3 := by unfold mLP; rw [hz.1]
    have hgo := eGoB_iff F n k cv h
    unfold mWl
    by_cases h1 : eGoB F n k cv h = true
    · obtain ⟨g1, g2, g3⟩ := hgo.mp h1
      rw [List.find?_cons_of_pos h1, if_neg (by rw [e1]; exact g1), if_neg (by rw [e2, g2]; decide)]
      refine ⟨fun q => (nomatch q), fun c hc => ?_⟩
      cases hc
      refine ⟨_, hz, ?_⟩
      unfold eAct
      rw [e3, e4, e6, e7]
      by_cases h3 : mOf F h 3 = 0
      · rw [if_pos h3, if_pos h3]
        by_cases h4 : mLP F k 3 = 0
        · rw [if_pos h4, if_pos h4, if_neg (fun q => g3 ⟨h3, h4, e5.mp q⟩)]
        · rw [if_neg h4, if_neg h4]
      · rw [if_neg h3, if_neg h3]
    · rw [List.find?_cons_of_neg h1]
      by_cases g1 : mWasB G n h = true
      · rw [if_pos g1]
        exact ih1
      · rw [if_neg g1]
        by_cases g2 : 0 < mWr G h k (cv h)
        · rw [if_pos g2]
          exact ih2
        · rw [if_neg g2]
          have g3 : mOf F h 3 = 0 ∧ mLP F k 3 = 0 ∧ mLow F k := by
            rw [e1] at g1
            rw [e2, mWr_le] at g2
            by_cases g3 : mOf F h 3 = 0 ∧ mLP F k 3 = 0 ∧ mLow F k
            · exact g3
            · exact absurd (hgo.mpr ⟨g1, g2, g3⟩) h1
          rw [e3, if_pos g3.1, e4, if_pos g3.2.1, if_pos (e5.mpr g3.2.2)]
          exact ih2
end ZE7
