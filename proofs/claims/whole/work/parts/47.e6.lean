/-! THE PURE PART: the convoy that is chosen is the first in order that may go -/
section ZE6
set_option maxRecDepth 20000
def eBf (F : zF) (n a b : Nat) : Prop := (mPr F n b).toInt < (mPr F n a).toInt ∨ ((mPr F n a).toInt = (mPr F n b).toInt ∧ a < b)
theorem mInR_srt (F : zF) (n s : Nat) : ∀ R, R.Pairwise (fun a b => eBf F n b a) → (∀ x, x ∈ R → x < s) → (mInR F n s R).Pairwise (fun a b => eBf F n b a)
  | [], _, _ => List.pairwise_singleton _ _
  | h :: t, hp, hs => by
    have hp := List.pairwise_cons.mp hp
    have h1 := hs h List.mem_cons_self
    unfold mInR
    split
    · rename_i h2
      rw [Int32.lt_iff_toInt_lt] at h2
      refine List.pairwise_cons.mpr ⟨fun y hy => ?_, mInR_srt F n s t hp.2 (fun x hx => hs x (List.mem_cons_of_mem _ hx))⟩
      rcases (mInR_mem F n s t y).mp hy with h3 | h3
      · subst h3
        exact Or.inl h2
      · exact hp.1 y h3
    · rename_i h2
      rw [Int32.lt_iff_toInt_lt] at h2
      refine List.pairwise_cons.mpr ⟨fun y hy => ?_, List.pairwise_cons.mpr hp⟩
      have h5 := hs y hy
      unfold eBf
      rcases List.mem_cons.mp hy with h3 | h3
      · subst h3
        omega
      · have h4 := hp.1 y h3
        unfold eBf at h4
        omega
theorem mOrd_srt (F : zF) (n : Nat) (l : Int32) : ∀ k, (mOrd F n l k).Pairwise (eBf F n)
  | 0 => List.Pairwise.nil
  | k + 1 => by
    have ih := mOrd_srt F n l k
    unfold mOrd
    split
    · rw [List.pairwise_reverse]
      refine mInR_srt F n k _ ?_ (fun x hx => mOrd_lt F n l k x (List.mem_reverse.mp hx))
      rw [List.pairwise_reverse]
      exact ih
    · exact ih
theorem eFind {F : zF} {n : Nat} {p : Nat → Bool} : ∀ {L : List Nat} {c : Nat}, L.Pairwise (eBf F n) → c ∈ L → p c = true → (∀ i, i ∈ L → p i = true → i = c ∨ eBf F n c i) → L.find? p = some c
  | [], c, _, h, _, _ => nomatch h
  | x :: t, c, hp, h, h1, h2 => by
    have hp := List.pairwise_cons.mp hp
    by_cases hx : p x = true
    · rw [List.find?_cons_of_pos hx]
      rcases h2 x List.mem_cons_self hx with h3 | h3
      · rw [h3]
      · rcases List.mem_cons.mp h with h4 | h4
        · rw [h4]
        · have h5 := hp.1 c h4
          unfold eBf at h3 h5
          omega
    · rw [List.find?_cons_of_neg hx]
      rcases List.mem_cons.mp h with h4 | h4
      · rw [h4] at h1
        exact absurd h1 hx
      · exact eFind hp.2 h4 h1 (fun i hi => h2 i (List.mem_cons_of_mem _ hi))
theorem mRl_03 (F : zF) (h k : Nat) (low : Int32) : ∀ R a z, mRl F h k low R a z = 0 ∨ 0 < mRl F h k low R a z
  | [], a, z => by
    show mRf F h k a z = 0 ∨ 0 < mRf F h k a z
    unfold mRf
    split
    · exact Or.inr (by decide)
    · split
      · exact Or.inr (by decide)
      · exact Or.inl rfl
  | s :: t, a, z => by
    unfold mRl
    split
    · exact Or.inr (by decide)
    · exact mRl_03 F h k low t _ _
theorem mWr_03 (F : zF) (h k : Nat) (L : List Nat) : mWr F h k L = 0 ∨ 0 < mWr F h k L := by
  unfold mWr mRu
  split
  · exact Or.inr (by decide)
  · exact mRl_03 F h k _ _ _ _
theorem mWr_le (F : zF) (h k : Nat) (L : List Nat) : ¬ 0 < mWr F h k L ↔ mWr F h k L = 0 := by
  rcases mWr_03 F h k L with h1 | h1
  · rw [h1]; decide
  · exact ⟨fun h2 => absurd h1 h2, fun h2 => by rw [h2]; decide⟩
/-- may the convoy of a go, the reference's way -/
def eGoB (F : zF) (n k : Nat) (cv : Nat → List Nat) (a : Nat) : Bool := !(mWasB F n a) && (!(decide (0 < mWr F a k (cv a))) && !(decide (mOf F a 3 = 0) && (decide (mLP F k 3 = 0) && decide (mLow F k))))
theorem eGoB_iff (F : zF) (n k : Nat) (cv : Nat → List Nat) (a : Nat) : eGoB F n k cv a = true ↔ ¬ mWasB F n a = true ∧ mWr F a k (cv a) = 0 ∧ ¬ (mOf F a 3 = 0 ∧ mLP F k 3 = 0 ∧ mLow F k) := by
  rw [← mWr_le]
  unfold eGoB
  simp
  intro _ _
  constructor
  · rintro (h | h | h) h1 h2
    · exact absurd h1 h
    · exact absurd h2 h
    · exact h
  · intro h
    by_cases h1 : mOf F a 3 = 0
    · by_cases h2 : mLP F k 3 = 0
      · exact Or.inr (Or.inr (h h1 h2))
      · exact Or.inr (Or.inl h2)
    · exact Or.inl h1
/-- in a tick: what was locked -/
def eTi (G F : zF) (n t : Nat) (cv : Nat → List Nat) : Prop := ∀ s, s < n → ¬ G 35 s = -1 → ((¬ F 9 s = 0) ↔ G 37 s = nI (t + 1)) ∧ ∀ a, a < n → s ∈ cv a → (G 37 s = nI (t + 1) ↔ G 37 a = nI (t + 1))
theorem eWas {G F : zF} {n t : Nat} {cv : Nat → List Nat} (hn : n ≤ 16) (h : eCv G (F 1) n cv) (ht : eTi G F n t cv) {a : Nat} (ha : a < n) (hh : mOf F a 6 = nI a) (h35 : ¬ G 35 a = -1) : mWasB F n a = true ↔ G 37 a = nI (t + 1) := by
  rw [mWasB_iff]
  constructor
  · rintro ⟨s, h1, h2, h3⟩
    have h4 := ((eCv_m hn h ha).2.1 s h1).mp h2
    have h5 := ((h.2 a ha).2.2.2.1 s h4).2.1
    have h6 := ht s h1 (by rw [h5]; exact h35)
    exact (h6.2 a ha h4).mp (h6.1.mp h3)
  · intro h1
    exact ⟨a, ha, hh, (ht a ha h35).1.mpr h1⟩
theorem eBit1 {b nb : Nat} (h : b < 2 ^ nb) (h2 : nb ≤ 3) : (nI b).toNatClampNeg = b := nI_clamp (by have := (mB_pw nb h2).1; omega)
/-- what a chamber lacks -/
theorem eLck {G F : zF} {m k : Nat} (h : eLo G (F 1) m) (hm : m ≤ 5) (hk : k + 1 < m) : qLk G (nI k) = mLc F k (mLP F k 4).toNatClampNeg ∧ ∃ c b nb, (4 ≤ c ∧ c ≤ 60 ∧ b < 2 ^ nb ∧ nb ≤ 3 ∧ mBit b ≤ 3) ∧ mLP F k 1 = nI c ∧ mLP F k 4 = nI b ∧ mLP F k 2 = nI nb ∧ qLk G (nI k) = nI (c - mBit b * (c / 4)) := by
  obtain ⟨l1, l2, l3, l4, l5, l6, len, c, nb, f, b, lb, ⟨lk0, lk1, lk2, lk3, lk4⟩, lk5, lk6⟩ := eLo_v h hm hk
  have hb : mBit b ≤ 3 := by unfold mBit; omega
  have e : qLk G (nI k) = nI (c - mBit b * (c / 4)) := by
    show qCh G (nI k) - qFb G (nI k) * qQu G (nI k) = _
    rw [l2, lk1, lk6, lk5, nI_mulc, nI_subc]
    have : mBit b * (c / 4) ≤ 3 * (c / 4) := Nat.mul_le_mul_right _ hb
    omega
  refine ⟨?_, c, b, nb, ⟨lb.2.2.1, lb.2.2.2.1, lb.2.2.2.2.2.2, lb.2.2.2.2.1, hb⟩, lk1, lk4, lk2, e⟩
  show qCh G (nI k) - qFb G (nI k) * qQu G (nI k) = _
  unfold mLc
  rw [lk4, eBit1 lb.2.2.2.2.2.2 lb.2.2.2.2.1, l2, lk1, lk6, lk5, nI_div4 c lb.2.2.2.1, Int32.mul_comm]
/-- one ship at lock k: both sides say the same of it -/
theorem eCand {G F : zF} {n m t B : Nat} {cv : Nat → List Nat} (hC : eC G (F 1) n m t (t + 1) B cv) (hB : B < 2 ^ 29) (hT : eTi G F n t cv) {k i : Nat} (hk : k + 1 < m) (hi : i < n) :
    (qCan (qTb G (nI k)) G (nI i) (nI k) ∧ qHR G (qLook G (nI i) (qLen G (nI k))) (nI i) (nI k) = 0) ↔ (i ∈ mOrd F n (nI k) n ∧ eGoB F n k cv i = true) := by
  have hC0 := hC
  obtain ⟨h1, h2, h3, h6, h7⟩ := hC
  obtain ⟨⟨hn, hm, hnm, ht⟩, ⟨s0, s1, s2, s3, s4, s5⟩, ⟨p4, p5, p6, p7, p8, p9, p10, p11⟩, -, -, -⟩ := h1
  have hA := eAt_iff hn hm h7 h6 hi (l := k) (by omega)
  have hv := eSh_v h6 hn hm hi
  have hmem : i ∈ mOrd F n (nI k) n ↔ (qFi G (nI i) = nI i ∧ qWa G (nI i) = nI k) := by
    rw [hA, mOrd_mem]
    exact ⟨fun h => h.2, fun h => ⟨hi, h⟩⟩
  rw [hmem, eGoB_iff]
  constructor
  · rintro ⟨⟨h8, h9, h10⟩, h11⟩
    have h35 : G 35 i = nI k := hv.2.2.2.2.2.2.2.1.symm.trans h8.2
    have hhd := eCv_hd hn h7 hi (hA.mp h8).1
    obtain ⟨g1, g2, g3, g4, g5, x, g6, g7, g8⟩ := eAt h6 hm hi h35 (by omega)
    rw [(eRules hC0 hB hi hhd.2.2 (by omega) h35).1] at h11
    refine ⟨h8, fun h12 => ?_, h11, ?_⟩
    · have h13 := (eWas hn h7 hT hi (hA.mp h8).1 (by rw [h35]; exact nI_nm (by omega))).mp h12
      refine h9 ?_
      rw [p7, s0, hv.2.2.2.2.2.2.2.2, h13]
      exact nI_lt (by omega) (by omega)
    · rintro ⟨q1, q2, q3⟩
      rcases h10 with h10 | h10
      · refine h10 ?_
        unfold qTb
        rw [if_neg]
        rintro (q | q)
        · have := (eLo_v h3 hm g1).2.2.2.1
          rw [this, q2] at q
          exact absurd q (by decide)
        · rw [(eLck h3 hm g1).1] at q
          have e : qW G (nI k) = mWa F k := by
            obtain ⟨⟨e1, e2, e3⟩, -⟩ := h2.1 k (by omega)
            exact (zrd_k _ (by omega) (by decide)).trans e3
          rw [e] at q
          exact Int32.not_lt.mpr q q3
      · rw [hv.2.2.2.1, q1] at h10
        exact absurd h10 (by decide)
  · rintro ⟨h8, h9, h11, h10⟩
    have h35 : G 35 i = nI k := hv.2.2.2.2.2.2.2.1.symm.trans h8.2
    have hhd := eCv_hd hn h7 hi (hA.mp h8).1
    obtain ⟨g1, g2, g3, g4, g5, x, g6, g7, g8⟩ := eAt h6 hm hi h35 (by omega)
    rw [(eRules hC0 hB hi hhd.2.2 (by omega) h35).1]
    refine ⟨⟨h8, fun h12 => h9 ?_, ?_⟩, h11⟩
    · refine (eWas hn h7 hT hi (hA.mp h8).1 (by rw [h35]; exact nI_nm (by omega))).mpr ?_
      rw [p7, s0, hv.2.2.2.2.2.2.2.2, g7, nI_ltI (by omega) (by omega)] at h12
      rw [g7, show x = t + 1 by omega]
    · have hu := (eNat h6 hi).1.2.2.2.2.2.2.2.2
      by_cases hu1 : nU F i = 1
      · refine Or.inr ?_
        rw [hv.2.2.2.1, hu.1, hu1]
        rfl
      · refine Or.inl (fun hb => ?_)
        have hu0 : mOf F i 3 = 0 := by rw [hu.1, show nU F i = 0 by omega]; rfl
        unfold qTb at hb
        by_cases hq : qCBR G (nI k)
        · rw [if_pos hq] at hb
          exact absurd hb (by decide)
        · have hq1 : ¬ qFu G (nI k) = 1 := fun z => hq (Or.inl z)
          have hq2 : ¬ qLk G (nI k) ≤ qW G (nI k) := fun z => hq (Or.inr z)
          obtain ⟨l1, l2, l3, l4, l5, l6, len, c, nb, f, b, lb, ⟨lk0, lk1, lk2, lk3, lk4⟩, lk5, lk6⟩ := eLo_v h3 hm g1
          refine h10 ⟨hu0, ?_, ?_⟩
          · rw [l4, lk3] at hq1
            rw [lk3]
            by_cases hf : f = 1
            · rw [hf] at hq1
              exact absurd rfl hq1
            · rw [show f = 0 by omega]
              rfl
          · rw [(eLck h3 hm g1).1] at hq2
            have e : qW G (nI k) = mWa F k := by
              obtain ⟨⟨e1, e2, e3⟩, -⟩ := h2.1 k (by omega)
              exact (zrd_k _ (by omega) (by decide)).trans e3
            rw [e] at hq2
            exact Int32.not_le.mp hq2
end ZE6
