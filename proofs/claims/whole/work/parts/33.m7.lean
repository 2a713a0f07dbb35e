/-! a lock works -/
section ZM7
set_option maxRecDepth 20000
def mWasB (G : zF) (n h : Nat) : Bool := (List.range n).any fun s => decide (mOf G s 6 = nI h) && !(decide (G 9 s = 0))
theorem mWasB_iff (G : zF) (n h : Nat) : mWasB G n h = true ↔ ∃ s, s < n ∧ mOf G s 6 = nI h ∧ ¬ G 9 s = 0 := by
  unfold mWasB
  rw [List.any_eq_true]
  constructor
  · rintro ⟨s, h1, h2⟩
    rw [Bool.and_eq_true, Bool.not_eq_true'] at h2
    exact ⟨s, List.mem_range.mp h1, of_decide_eq_true h2.1, of_decide_eq_false h2.2⟩
  · rintro ⟨s, h1, h2, h3⟩
    refine ⟨s, List.mem_range.mpr h1, ?_⟩
    rw [Bool.and_eq_true, Bool.not_eq_true']
    exact ⟨decide_eq_true h2, decide_eq_false h3⟩
def mWr (G : zF) (h k : Nat) (L : List Nat) : Int32 := mRu G h k (mOf G h 4).toNatClampNeg (mNx G h).toNatClampNeg L
def mEx (G : zF) (k : Nat) : zF := mEmp G k (mLP G k 1).toNatClampNeg (mLP G k 2).toNatClampNeg (mLP G k 4).toNatClampNeg
def mFx (G : zF) (k : Nat) : zF := mFil G k (mLP G k 4).toNatClampNeg
abbrev mLow (G : zF) (k : Nat) : Prop := mWa G k < mLc G k (mLP G k 4).toNatClampNeg
def mUp (n k : Nat) (L : List Nat) (h : Nat) (G : zF) : zF := if mLow G k then G else mLks (mFx G k) h n k L
def mWl (n k : Nat) (cv : Nat → List Nat) : List Nat → zF → zF
  | [], G => G
  | h :: t, G => if mWasB G n h = true then mWl n k cv t G else if 0 < mWr G h k (cv h) then mWl n k cv t (zls 8 16 G (mRow G k (cv h))) else
    if mOf G h 3 = 0 then (if mLP G k 3 = 0 then (if mLow G k then mWl n k cv t (zls 8 16 G (mRow G k (cv h))) else mLks (mEx (mFx (zls 8 16 G (mRow G k (cv h))) k) k) h n k (cv h)) else mLks (mEx (zls 8 16 G (mRow G k (cv h))) k) h n k (cv h))
    else if mLP G k 3 = 1 then mUp n k (cv h) h (mEx (zls 8 16 G (mRow G k (cv h))) k) else mUp n k (cv h) h (zls 8 16 G (mRow G k (cv h)))
def mWp (F : zF) (n k : Nat) (cv : Nat → List Nat) : Prop := n ≤ 16 ∧ F 1 2 = nI n ∧ ¬ F 1 3 = 0 ∧ ¬ F 1 (10 + 3 * k) = 0 ∧ ¬ F 1 (10 + 3 * (k + 1)) = 0 ∧ (∃ c nb m, mLP F k 1 = nI c ∧ c ≤ 60 ∧ mLP F k 2 = nI nb ∧ nb ≤ 3 ∧ mLP F k 4 = nI m ∧ m < 2 ^ nb) ∧ ∀ h, h ∈ mOrd F n (nI k) n → mCv F n h (cv h)
def mWk (F : zF) (n k : Nat) (cv : Nat → List Nat) : zF := mWl n k cv (mOrd F n (nI k) n) (zls 7 14 F (mOrd F n (nI k) n))
def sX9_works : zSp := fun as F ok _ => match as with
  | [.ref 0, .int x] => ∃ n k cv, x = nI k ∧ k < 4 ∧ mWp F n k cv ∧ ok none (mWk F n k cv)
  | _ => False
theorem mOrd_mem (F : zF) (n : Nat) (l : Int32) : ∀ k x, x ∈ mOrd F n l k ↔ x < k ∧ mOf F x 6 = nI x ∧ ¬ mOf F x 4 < 0 ∧ mLk F x = l
  | 0, x => by simp [mOrd]
  | k + 1, x => by
    have ih := mOrd_mem F n l k x
    unfold mOrd
    split
    · rename_i h1
      rw [List.mem_reverse, mInR_mem, List.mem_reverse, ih]
      constructor
      · rintro (h2 | h2)
        · subst h2
          exact ⟨by omega, h1⟩
        · exact ⟨by omega, h2.2⟩
      · rintro ⟨h2, h3⟩
        by_cases h4 : x = k
        · exact Or.inl h4
        · exact Or.inr ⟨by omega, h3⟩
    · rename_i h1
      rw [ih]
      constructor
      · rintro ⟨h2, h3⟩
        exact ⟨by omega, h3⟩
      · rintro ⟨h2, h3⟩
        by_cases h4 : x = k
        · subst h4
          exact absurd h3 h1
        · exact ⟨by omega, h3⟩
theorem mCv_hi {F G : zF} (e : ∀ i, 53 ≤ i → G 1 i = F 1 i) {n h : Nat} {L : List Nat} (c : mCv F n h L) : mCv G n h L := by
  have e2 : ∀ s w, mOf G s w = mOf F s w := fun s w => e _ (by omega)
  exact ⟨c.1, fun s hs => by rw [e2]; exact c.2.1 s hs, fun i x hx => by rw [e2]; exact c.2.2 i x hx⟩
theorem mLk_hi {F G : zF} (e : ∀ i, 53 ≤ i → G 1 i = F 1 i) (s : Nat) : mLk G s = mLk F s := by
  have e2 : ∀ s w, mOf G s w = mOf F s w := fun s w => e _ (by omega)
  unfold mLk
  rw [e2, e2]
theorem mFil_at (G : zF) (k b : Nat) (hk : k < 4) {i : Nat} (h1 : i ≠ 10 + 3 * k + 2) (h2 : i ≠ 8) (h3 : i ≠ 25 + 7 * k + 3) (h4 : i ≠ 25 + 7 * k + 4) : mFil G k b 1 i = G 1 i := by
  unfold mFil
  rw [zup_an _ _ _ h4, zup_an _ _ _ h3, zup_an _ _ _ h2, zup_an _ _ _ h1]
theorem mEmp_at (G : zF) (k c nb m : Nat) {i : Nat} (h1 : i ≠ 10 + 3 * (k + 1) + 2) (h3 : i ≠ 25 + 7 * k + 3) (h4 : i ≠ 25 + 7 * k + 4) : mEmp G k c nb m 1 i = G 1 i := by
  unfold mEmp
  rw [zup_an _ _ _ h3, zup_an _ _ _ h1, zup_an _ _ _ h4]
theorem mFil_4 (G : zF) (k b : Nat) : mLP (mFil G k b) k 4 = 0 := by
  unfold mFil mLP
  rw [zup_at]
theorem mEmp_4 (G : zF) (k c nb m : Nat) (hk : k < 4) : mLP (mEmp G k c nb m) k 4 = nI (2 ^ nb - 1) := by
  unfold mEmp mLP
  rw [zup_an _ _ _ (by omega), zup_an _ _ _ (by omega), zup_at]
/-- what is known of a lock -/
def mLd (G : zF) (k : Nat) : Prop := ∃ c nb m, mLP G k 1 = nI c ∧ c ≤ 60 ∧ mLP G k 2 = nI nb ∧ nb ≤ 3 ∧ mLP G k 4 = nI m ∧ m < 2 ^ nb
theorem mB_pw : ∀ nb, nb ≤ 3 → 2 ^ nb ≤ 8 ∧ 0 < 2 ^ nb ∧ 2 ^ nb - 1 < 2 ^ nb := by decide
theorem mLd_f {G : zF} {k : Nat} (hk : k < 4) (h : mLd G k) : mLd (mFx G k) k := by
  obtain ⟨c, nb, m, h1, h2, h3, h4, h5, h6⟩ := h
  refine ⟨c, nb, 0, ?_, h2, ?_, h4, mFil_4 _ _ _, (mB_pw nb h4).2.1⟩
  · rw [← h1]
    exact mFil_at _ _ _ hk (by omega) (by omega) (by omega) (by omega)
  · rw [← h3]
    exact mFil_at _ _ _ hk (by omega) (by omega) (by omega) (by omega)
theorem mLd_e {G : zF} {k : Nat} (hk : k < 4) (h : mLd G k) : mLd (mEx G k) k := by
  obtain ⟨c, nb, m, h1, h2, h3, h4, h5, h6⟩ := h
  refine ⟨c, nb, 2 ^ nb - 1, ?_, h2, ?_, h4, ?_, (mB_pw nb h4).2.2⟩
  · rw [← h1]
    exact mEmp_at _ _ _ _ _ (by omega) (by omega) (by omega)
  · rw [← h3]
    exact mEmp_at _ _ _ _ _ (by omega) (by omega) (by omega)
  · unfold mEx
    rw [h3, nI_clamp (by omega)]
    exact mEmp_4 _ _ _ _ _ hk
/-- same ships, same count -/
def mSm (G F : zF) : Prop := G 1 2 = F 1 2 ∧ ∀ i, 53 ≤ i → G 1 i = F 1 i
theorem mSm_f {G F : zF} {k : Nat} (hk : k < 4) (h : mSm G F) : mSm (mFx G k) F := ⟨(mFil_at _ _ _ hk (by omega) (by omega) (by omega) (by omega)).trans h.1, fun i hi => (mFil_at _ _ _ hk (by omega) (by omega) (by omega) (by omega)).trans (h.2 i hi)⟩
theorem mSm_e {G F : zF} {k : Nat} (hk : k < 4) (h : mSm G F) : mSm (mEx G k) F := ⟨(mEmp_at _ _ _ _ _ (by omega) (by omega) (by omega)).trans h.1, fun i hi => (mEmp_at _ _ _ _ _ (by omega) (by omega) (by omega)).trans (h.2 i hi)⟩
/-- the calls' conditions -/
theorem mPe {G : zF} {k : Nat} (hk : k < 4) (h : mLd G k) {ok : zO} (h2 : ok none (mEx G k)) : sX9_empties [.ref 0, .int (nI k)] G ok (fun _ _ => False) := by
  obtain ⟨c, nb, m, h1, h2', h3, h4, h5, h6⟩ := h
  refine ⟨k, c, nb, m, rfl, hk, h1, h2', h3, h4, h5, h6, ?_⟩
  unfold mEx at h2
  have h7 := (mB_pw nb h4).1
  rw [h1, h3, h5, nI_clamp (by omega), nI_clamp (by omega), nI_clamp (by omega)] at h2
  exact h2

end ZM7
