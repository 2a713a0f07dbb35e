/-! THE PURE PART: convoys, counts, priorities -/
section ZE3
set_option maxRecDepth 20000
theorem eCv_of {G F : zF} {n : Nat} {cv : Nat → List Nat} (hn : n ≤ 16) (h : eCv G (F 1) n cv) {s : Nat} (hs : s < n) :
    ∃ a, a < n ∧ s ∈ cv a ∧ qFi G (nI s) = nI a ∧ mOf F s 6 = nI a ∧ (cv a).head? = some a ∧ eHd (cv a) = nI a ∧ G 35 s = G 35 a ∧ mOf F s 3 = mOf F a 3 := by
  obtain ⟨a, ha, hsa⟩ := h.1 s hs
  obtain ⟨⟨h1, h9⟩, h2, h3, h4, h5⟩ := h.2 a ha
  obtain ⟨i, hi⟩ := List.mem_iff_getElem?.mp hsa
  have h6 := h4 s hsa
  have h7 : (cv a).head? = some a := by
    rcases h2 with h2 | h2
    · rw [h2] at hsa; exact nomatch hsa
    · exact h2
  refine ⟨a, ha, hsa, (zrd_k _ (by omega) (by decide)).trans h6.1, (h3 i s hi).2.1, h7, ?_, h6.2.1, h6.2.2⟩
  cases hL : cv a with
  | nil => rw [hL] at hsa; exact nomatch hsa
  | cons y t =>
    rw [hL] at h7
    cases h7
    rfl
theorem eCv_len {G F : zF} {n : Nat} {cv : Nat → List Nat} (hn : n ≤ 16) (h : eCv G (F 1) n cv) {a : Nat} (ha : a < n) : (cv a).length ≤ 16 := mCv_16 (eCv_m hn h ha) hn
/-- a first ship -/
theorem eCv_hd {G F : zF} {n : Nat} {cv : Nat → List Nat} (hn : n ≤ 16) (h : eCv G (F 1) n cv) {s : Nat} (hs : s < n) (hf : mOf F s 6 = nI s) : s ∈ cv s ∧ (cv s).head? = some s ∧ eHd (cv s) = nI s := by
  obtain ⟨a, ha, h1, h2, h3, h4, h5, h6⟩ := eCv_of hn h hs
  have h7 := (nI_eq (by omega) (by omega)).mp (h3.symm.trans hf)
  subst h7
  exact ⟨h1, h4, h5⟩
theorem eSIC {G F : zF} {n : Nat} {cv : Nat → List Nat} (hn : n ≤ 16) (h : eCv G (F 1) n cv) {s a : Nat} (hs : s < n) (ha : a < n) (h1 : s ∈ cv a) : qSIC G (nI s) = nI (cv a).length ∧ mSz F (mOf F s 6) n = (cv a).length := by
  obtain ⟨b, hb, g1, g2, g3, g4, g5, g6⟩ := eCv_of hn h hs
  obtain ⟨i, hi⟩ := List.mem_iff_getElem?.mp h1
  have e := ((h.2 a ha).2.2.1 i s hi).2.1
  have e2 := (nI_eq (by omega) (by omega)).mp (e.symm.trans g3)
  subst e2
  refine ⟨?_, ?_⟩
  · unfold qSIC
    rw [g2, ← g5, eLenC 16 _ (h.2 a ha).1.1 (eCv_len hn h ha)]
  · rw [g3]
    exact mCv_sz (eCv_m hn h ha)
theorem eSOC {G F : zF} {n : Nat} {cv : Nat → List Nat} (hn : n ≤ 16) (h : eCv G (F 1) n cv) {a : Nat} (ha : a < n) (hh : eHd (cv a) = nI a) {s : Nat} (hs : qFi G (nI s) = nI a) {p : Nat} (hp : p < 2 ^ 31) : qSOC G (nI s) (nI p) = eHd ((cv a).drop p) := by
  unfold qSOC
  rw [hs, ← hh, eNth p hp 16 0 _ (h.2 a ha).1.1 (eCv_len hn h ha) (Nat.zero_le _)]
  rfl
theorem eSOCn {G F : zF} {n : Nat} {cv : Nat → List Nat} (hn : n ≤ 16) (h : eCv G (F 1) n cv) {a : Nat} (ha : a < n) (hh : eHd (cv a) = nI a) {s : Nat} (hs : qFi G (nI s) = nI a) {x : Int32} (hx : ¬ (0 ≤ x ∧ x ≤ nI (cv a).length - 1)) : qSOC G (nI s) x = -1 := by
  unfold qSOC
  have hl := eCv_len hn h ha
  rw [hs, ← hh]
  refine eNthn x 16 0 _ (h.2 a ha).1.1 hl (fun j _ hj he => hx ?_)
  rw [← he, nI_m1 (by omega)]
  exact ⟨nI_pos' (by omega), nI_le (by omega) (by omega)⟩
theorem eAt_iff {G F : zF} {n m T : Nat} {cv : Nat → List Nat} (hn : n ≤ 16) (hm : m ≤ 5) (h : eCv G (F 1) n cv) (h2 : eSh G (F 1) n m T) {s l : Nat} (hs : s < n) (hl : l < 2 ^ 30) : (qFi G (nI s) = nI s ∧ qWa G (nI s) = nI l) ↔ (mOf F s 6 = nI s ∧ ¬ mOf F s 4 < 0 ∧ mLk F s = nI l) := by
  obtain ⟨a, ha, h1, g2, g3, g4, g5, g6⟩ := eCv_of hn h hs
  have g7 := (eSh_v h2 hn hm hs).2.2.2.2.2.1
  rw [g2, g3, g7]
  constructor
  · rintro ⟨k1, k2⟩
    refine ⟨k1, fun k3 => ?_, k2⟩
    unfold mLk at k2
    rw [if_pos k3] at k2
    exact nI_nm (by omega) k2.symm
  · rintro ⟨k1, k2, k3⟩
    exact ⟨k1, k3⟩
theorem eCva {G F : zF} {n m T : Nat} {cv : Nat → List Nat} (hn : n ≤ 16) (hm : m ≤ 5) (h : eCv G (F 1) n cv) (h2 : eSh G (F 1) n m T) {l : Nat} (hl : l < 2 ^ 30) : ∀ k, k ≤ n → qCva G (nI l) k = nI (mOrd F n (nI l) k).length
  | 0, _ => rfl
  | k + 1, hk => by
    have ih := eCva hn hm h h2 hl k (by omega)
    have hi := eAt_iff hn hm h h2 (s := k) (by omega) hl
    unfold qCva mOrd
    by_cases hc : qFi G (nI k) = nI k ∧ qWa G (nI k) = nI l
    · rw [if_pos hc, if_pos (hi.mp hc), List.length_reverse, mInR_len, List.length_reverse, ih, nI_1]
    · rw [if_neg hc, if_neg (fun hd => hc (hi.mpr hd)), ih, Int32.add_zero]
theorem eSir {G F : zF} {n m T : Nat} (hn : n ≤ 16) (hm : m ≤ 5) (h2 : eSh G (F 1) n m T) (r : Int32) : ∀ k, k ≤ n → qSir G r k = nI (mSr F r k)
  | 0, _ => rfl
  | k + 1, hk => by
    have ih := eSir hn hm h2 r k (by omega)
    unfold qSir mSr
    rw [(eSh_v h2 hn hm (s := k) (by omega)).2.2.2.2.2.2.1, ih]
    by_cases hc : mOf F k 4 = r
    · rw [if_pos hc, if_pos hc, nI_1]
    · rw [if_neg hc, if_neg hc, Int32.add_zero, Nat.add_zero]
theorem eMaxI {a b : Nat} (ha : a < 2 ^ 31) (hb : b < 2 ^ 31) : imax (nI a) (nI b) = nI (max a b) := by
  unfold imax
  by_cases h : a < b
  · rw [if_pos (nI_lt h hb), Nat.max_eq_right (by omega)]
  · rw [if_neg (nI_nlt (by omega) ha), Nat.max_eq_left (by omega)]
theorem eMinI {a b : Nat} (ha : a < 2 ^ 31) (hb : b < 2 ^ 31) : imin (nI a) (nI b) = nI (min a b) := by
  unfold imin
  by_cases h : b < a
  · rw [if_pos (nI_lt h ha), Nat.min_eq_right (by omega)]
  · rw [if_neg (nI_nlt (by omega) hb), Nat.min_eq_left (by omega)]
theorem eMxN {G : zF} : ∀ (L : List Nat) (a : Nat), (∀ x, x ∈ L → ∃ r, r ≤ 3 ∧ G 31 x = nI r) → a ≤ 3 → ∃ v, eMx G L (nI a) = nI v ∧ v ≤ 3 ∧ a ≤ v ∧ (∀ x, x ∈ L → ∀ r, r ≤ 3 → G 31 x = nI r → r ≤ v) ∧ (v = a ∨ ∃ x, x ∈ L ∧ G 31 x = nI v)
  | [], a, _, h => ⟨a, rfl, h, Nat.le_refl _, fun x hx => (nomatch hx), Or.inl rfl⟩
  | y :: t, a, hr, h => by
    obtain ⟨r, h1, h2⟩ := hr y List.mem_cons_self
    obtain ⟨v, g1, g2, g3, g4, g5⟩ := eMxN t (max a r) (fun x hx => hr x (List.mem_cons_of_mem _ hx)) (by omega)
    refine ⟨v, ?_, g2, by omega, fun x hx q hq e => ?_, ?_⟩
    · unfold eMx
      rw [h2, eMaxI (by omega) (by omega)]
      exact g1
    · rcases List.mem_cons.mp hx with h3 | h3
      · subst h3
        have := (nI_eq (by omega) (by omega)).mp (e.symm.trans h2)
        omega
      · exact g4 x h3 q hq e
    · rcases g5 with g5 | ⟨x, g5, g6⟩
      · by_cases h3 : a < r
        · exact Or.inr ⟨y, List.mem_cons_self, by rw [h2, g5, Nat.max_eq_right (by omega)]⟩
        · exact Or.inl (by omega)
      · exact Or.inr ⟨x, List.mem_cons_of_mem _ g5, g6⟩
theorem mMostN {F : zF} (h : Int32) : ∀ k, (∀ s, s < k → ∃ r, r ≤ 3 ∧ mOf F s 2 = nI r) → ∃ v, mMost F h k = nI v ∧ v ≤ 3 ∧ (∀ s, s < k → mOf F s 6 = h → ∀ r, r ≤ 3 → mOf F s 2 = nI r → r ≤ v) ∧ (v = 0 ∨ ∃ s, s < k ∧ mOf F s 6 = h ∧ mOf F s 2 = nI v)
  | 0, _ => ⟨0, rfl, by decide, fun s hs => absurd hs (Nat.not_lt_zero s), Or.inl rfl⟩
  | k + 1, hr => by
    obtain ⟨r, h1, h2⟩ := hr k (by omega)
    obtain ⟨v, g1, g2, g4, g5⟩ := mMostN h k (fun x hx => hr x (by omega))
    by_cases hc : mOf F k 6 = h
    · refine ⟨max v r, ?_, by omega, fun s hs g6 q hq e => ?_, ?_⟩
      · unfold mMost
        rw [if_pos hc, g1, h2, eMaxI (by omega) (by omega)]
      · by_cases h3 : s = k
        · subst h3
          have := (nI_eq (by omega) (by omega)).mp (e.symm.trans h2)
          omega
        · have := g4 s (by omega) g6 q hq e
          omega
      · by_cases h3 : v < r
        · exact Or.inr ⟨k, by omega, hc, by rw [h2, Nat.max_eq_right (by omega)]⟩
        · rw [Nat.max_eq_left (by omega)]
          rcases g5 with g5 | ⟨x, g5, g6⟩
          · exact Or.inl g5
          · exact Or.inr ⟨x, by omega, g6⟩
    · refine ⟨v, ?_, g2, fun s hs g6 q hq e => ?_, ?_⟩
      · unfold mMost
        rw [if_neg hc, g1]
      · by_cases h3 : s = k
        · subst h3
          exact absurd g6 hc
        · exact g4 s (by omega) g6 q hq e
      · rcases g5 with g5 | ⟨x, g5, g6⟩
        · exact Or.inl g5
        · exact Or.inr ⟨x, by omega, g6⟩
theorem eRank {G F : zF} {n m T : Nat} {cv : Nat → List Nat} (hn : n ≤ 16) (h : eCv G (F 1) n cv) (h2 : eSh G (F 1) n m T) {a : Nat} (ha : a < n) (hh : eHd (cv a) = nI a) : ∃ v, v ≤ 3 ∧ qGr G 16 (nI a) 0 = nI v ∧ mMost F (nI a) n = nI v := by
  have h3 := h.2 a ha
  have hlt : ∀ x, x ∈ cv a → x < n := fun x hx => by
    obtain ⟨i, hi⟩ := List.mem_iff_getElem?.mp hx
    exact (h3.2.2.1 i x hi).1
  have hr : ∀ s, s < n → ∃ r, r ≤ 3 ∧ mOf F s 2 = nI r ∧ G 31 s = nI r := fun s hs => by
    obtain ⟨⟨e1, e2, e3, e4, e5⟩, z, d, r, u, g1, ⟨g2, g3, g4, g5⟩, g6⟩ := h2 s hs
    exact ⟨r, g1.2.2.2.2.1, g4, e3.trans g4⟩
  obtain ⟨v, k1, k2, k3, k4, k5⟩ := eMxN (G := G) (cv a) 0 (fun x hx => by
    obtain ⟨r, q1, q2, q3⟩ := hr x (hlt x hx)
    exact ⟨r, q1, q3⟩) (by decide)
  obtain ⟨w, l1, l2, l4, l5⟩ := mMostN (F := F) (nI a) n (fun s hs => by
    obtain ⟨r, q1, q2, q3⟩ := hr s hs
    exact ⟨r, q1, q2⟩)
  have hc := eCv_m hn h ha
  have e : v = w := by
    have e1 : v ≤ w := by
      rcases k5 with k5 | ⟨x, k5, k6⟩
      · omega
      · obtain ⟨r, q1, q2, q3⟩ := hr x (hlt x k5)
        have := (nI_eq (by omega) (by omega)).mp (k6.symm.trans q3)
        subst this
        exact l4 x (hlt x k5) ((hc.2.1 x (hlt x k5)).mpr k5) v q1 q2
    have e2 : w ≤ v := by
      rcases l5 with l5 | ⟨x, l5, l6, l7⟩
      · omega
      · obtain ⟨r, q1, q2, q3⟩ := hr x l5
        have := (nI_eq (by omega) (by omega)).mp (l7.symm.trans q2)
        subst this
        exact k4 x ((hc.2.1 x l5).mp l6) w q1 q3
    omega
  refine ⟨v, k2, ?_, by rw [e]; exact l1⟩
  rw [← hh, eGr 16 _ 0 h3.1.1 (eCv_len hn h ha)]
  exact k1
set_option maxRecDepth 100000 in
theorem mFdN : ∀ b, b < 21 → ∀ a, a < 501 → (b ≠ 0 → mFd (nI a) (nI b) = nI (a / b)) := by decide +kernel
/-- a first ship's priority -/
theorem ePr {G F : zF} {n m t T B : Nat} {cv : Nat → List Nat} (hC : eC G (F 1) n m t T B cv) {a x : Nat} (ha : a < n) (hh : eHd (cv a) = nI a) (hw : G 37 a = nI x) (h5 : mOf F a 5 = nI x) (hx : x ≤ t) (h4 : ¬ mOf F a 4 < 0) : ∃ v, v ≤ 512 ∧ qPr G (nI a) = nI v ∧ mPr F n a = nI v := by
  obtain ⟨h1, h2, h3, h6, h7⟩ := hC
  obtain ⟨⟨hn, hm, hnm, ht⟩, ⟨s0, s1, s2, s3, s4, s5⟩, ⟨p4, p5, p6, p7, p8, p9, p10, p11⟩, ⟨p, hp1, hp2, hp⟩, -, -⟩ := h1
  obtain ⟨v, k1, k2, k3⟩ := eRank hn h7 h6 ha hh
  have hd : (t - x) / p ≤ t - x := Nat.div_le_self _ _
  have e1 : qWt G (nI a) = nI (t - x) := by
    unfold qWt
    rw [show qSi G (nI a) = nI x from (zrd_k _ (by omega) (by decide)).trans hw, p7, s0, nI_subc hx]
  have e2 : mWd F a = nI (t - x) := by
    unfold mWd
    rw [if_neg h4, h5, s0, nI_subc hx]
  refine ⟨4 * v + (t - x) / p, by omega, ?_, ?_⟩
  · unfold qPr
    rw [k2, e1, p4, hp, if_neg (show ¬ nI p < 1 from nI_nlt (b := 1) hp1 (by omega)), nI_divc (by omega) (by omega), show (4 : Int32) = nI 4 from rfl, nI_mulc, nI_add]
  · unfold mPr
    rw [k3, e2, hp, mFdN p (by omega) (t - x) (by omega) (by omega), show (4 : Int32) = nI 4 from rfl, nI_mulc, nI_add]
end ZE3
