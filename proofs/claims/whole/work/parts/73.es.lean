/-! THE PURE PART: account, addReach -/
section ZEs
set_option maxRecDepth 20000
theorem eA2 {G F : zF} {n m T : Nat} (hn : n ≤ 16) (hm : m ≤ 5) (h2 : eSh G (F 1) n m T) : ∀ k, k ≤ n → qSir G (-1) k = mA2 F k
  | 0, _ => rfl
  | k + 1, hk => by
    have ih := eA2 hn hm h2 k (by omega)
    have hl := eLeft h2 hm (s := k) (by omega)
    unfold qSir mA2
    rw [(eSh_v h2 hn hm (s := k) (by omega)).2.2.2.2.2.2.1, ih]
    rcases hl.2 with ⟨-, q⟩ | ⟨j, q1, q2⟩
    · rw [if_pos q, if_pos (by rw [q]; decide)]
    · have q3 := (eAt h2 hm (s := k) (by omega) q2 (by omega)).2.1
      have q4 := (eNat h2 (s := k) (by omega)).1.2.2.2.2.2.2.2.2.2
      rw [if_neg (by rw [q3]; exact nI_nm (by omega)), if_neg (by rw [q3]; exact nI_pos (by omega)), Int32.add_zero]
/-- the heads below lock k among the first j ships -/
def eWc (G : zF) (j : Nat) : Nat → Int32
  | 0 => 0
  | k + 1 => eWc G j k + qCva G (nI k) j
theorem eWc_s {G : zF} (j : Nat) {b : Nat} (hb : b < 2 ^ 30) (h : qFi G (nI j) = nI j ∧ qWa G (nI j) = nI b) : ∀ k, k < 2 ^ 30 → eWc G (j + 1) k = eWc G j k + (if b < k then 1 else 0)
  | 0, _ => by
    rw [if_neg (Nat.not_lt_zero b)]
    rfl
  | k + 1, hk => by
    have ih := eWc_s j hb h k (by omega)
    unfold eWc
    rw [ih, show qCva G (nI k) (j + 1) = qCva G (nI k) j + (if qFi G (nI j) = nI j ∧ qWa G (nI j) = nI k then 1 else 0) from rfl]
    by_cases hbk : b = k
    · subst hbk
      rw [if_neg (Nat.lt_irrefl b), if_pos h, if_pos (by omega), Int32.add_zero, Int32.add_assoc]
    · rw [if_neg (show ¬ (qFi G (nI j) = nI j ∧ qWa G (nI j) = nI k) from fun q => hbk ((nI_eq (by omega) (by omega)).mp (h.2.symm.trans q.2))), Int32.add_zero]
      by_cases h2 : b < k
      · rw [if_pos h2, if_pos (by omega), Int32.add_assoc, Int32.add_comm 1, ← Int32.add_assoc]
      · rw [if_neg h2, if_neg (by omega), Int32.add_zero, Int32.add_zero]
theorem eWc_n {G : zF} (j : Nat) (h : ∀ b : Nat, b < 2 ^ 30 → ¬ (qFi G (nI j) = nI j ∧ qWa G (nI j) = nI b)) : ∀ k, k < 2 ^ 30 → eWc G (j + 1) k = eWc G j k
  | 0, _ => rfl
  | k + 1, hk => by
    unfold eWc
    rw [eWc_n j h k (by omega), show qCva G (nI k) (j + 1) = qCva G (nI k) j + (if qFi G (nI j) = nI j ∧ qWa G (nI j) = nI k then 1 else 0) from rfl, if_neg (h k (by omega)), Int32.add_zero]
theorem eWc_0 (G : zF) : ∀ k, eWc G 0 k = 0
  | 0 => rfl
  | k + 1 => by
    unfold eWc
    rw [eWc_0 G k]
    rfl
theorem eA3 {G F : zF} {n m T : Nat} {cv : Nat → List Nat} (hn : n ≤ 16) (hm : m ≤ 5) (h : eCv G (F 1) n cv) (h2 : eSh G (F 1) n m T) : ∀ j, j ≤ n → eWc G j (m - 1) = mA3 F j
  | 0, _ => eWc_0 G _
  | j + 1, hj => by
    have ih := eA3 hn hm h h2 j (by omega)
    obtain ⟨a, ha, h1, g2, g3, -⟩ := eCv_of hn h (s := j) (by omega)
    have v := eSh_v h2 hn hm (s := j) (by omega)
    have hl := eLeft h2 hm (s := j) (by omega)
    unfold mA3
    rw [← ih]
    rcases hl.2 with ⟨q1, q2⟩ | ⟨b, q1, q2⟩
    · rw [if_neg (fun q => q.1 (by rw [q2]; decide))]
      exact eWc_n j (fun b hb q => nI_nm (by omega) (q.2.symm.trans (v.2.2.2.2.2.2.2.1.trans q1))) _ (by omega)
    · have q3 : ¬ mOf F j 4 < 0 := fun q => nI_nm (by omega) (q2.symm.trans (hl.1.mpr q))
      by_cases hf : mOf F j 6 = nI j
      · rw [if_pos ⟨q3, hf⟩, eWc_s j (b := b) (by omega) ⟨by rw [g2, ← g3, hf], v.2.2.2.2.2.2.2.1.trans q2⟩ _ (by omega), if_pos (by omega)]
      · rw [if_neg (fun q => hf q.2)]
        exact eWc_n j (fun b hb q => hf (by rw [g3, ← g2, q.1])) _ (by omega)
theorem qWcv_e (G : zF) {n : Nat} (h : (G 25 9).toNatClampNeg = n) : ∀ k, qWcv G k = eWc G n k
  | 0 => rfl
  | k + 1 => by
    unfold qWcv eWc
    rw [qWcv_e G h k, h]
theorem zsum_0 {f : Nat → Int32} {a : Nat} (h : ∀ i, a ≤ i → f i = 0) : ∀ d, zsum f (a + d) = zsum f a
  | 0 => rfl
  | d + 1 => by
    show zsum f (a + d) + f (a + d) = _
    rw [zsum_0 h d, h (a + d) (by omega), Int32.add_zero]
theorem zsum_z {f : Nat → Int32} {a b : Nat} (hab : a ≤ b) (h : ∀ i, a ≤ i → i < b → f i = 0) : zsum f b = zsum f a := by
  have key : ∀ d, a + d ≤ b → zsum f (a + d) = zsum f a := by
    intro d
    induction d with
    | zero => intro _; rfl
    | succ d ih =>
      intro hd
      show zsum f (a + d) + f (a + d) = _
      rw [ih (by omega), h (a + d) (by omega) (by omega), Int32.add_zero]
  have := key (b - a) (by omega)
  rw [show a + (b - a) = b by omega] at this
  exact this
theorem eA4 {G F : zF} {m B : Nat} (hm : m ≤ 5) (h : eRe G (F 1) m B) : zsum (G 7) 5 = mA4 F m := by
  rw [zsum_z hm (fun i h1 h2 => h.2 i h1 h2)]
  have key : ∀ k, k ≤ m → zsum (G 7) k = mA4 F k := by
    intro k
    induction k with
    | zero => intro _; rfl
    | succ k ih =>
      intro hk
      show zsum (G 7) k + G 7 k = mA4 F k + mWa F k
      rw [ih (by omega)]
      obtain ⟨⟨-, -, e3⟩, -⟩ := h.1 k (by omega)
      rw [e3]
      rfl
  exact key m (Nat.le_refl _)
theorem eA5 {G F : zF} {m : Nat} (hm : m ≤ 5) (h : eLo G (F 1) m) : ∀ k, k ≤ m - 1 → qAllW G k = mA5 F k
  | 0, _ => rfl
  | k + 1, hk => by
    have ih := eA5 hm h k (by omega)
    obtain ⟨l0, l1, l2, l3, l5, l6, len, c, nb, f, b, lb, ⟨lk0, lk1, lk2, lk3, lk4⟩, lk5, lk6⟩ := eLo_v h hm (k := k) (by omega)
    have hb8 := mB_8 lb.2.2.2.2.1 lb.2.2.2.2.2.2
    show qAllW G k + qWin G (nI k) = mA5 F k + mHd F k
    rw [ih]
    congr 1
    show qFu G (nI k) * qCh G (nI k) + qFb G (nI k) * qQu G (nI k) = _
    unfold mHd mBc
    rw [l3, l1, lk6, lk5, lk4, lk1, nI_div4 c lb.2.2.2.1, nI_clamp (by omega), Int32.mul_comm (nI (c / 4))]
theorem eA7 {G F : zF} {m : Nat} (hm : m ≤ 5) (h : eLo G (F 1) m) : zsum (G 22) 4 = mA7 F 5 (m - 1) ∧ zsum (G 24) 4 = mA7 F 6 (m - 1) := by
  rw [zsum_z (a := m - 1) (b := 4) (by omega) (fun i h1 h2 => (h.2 i (by omega) h2).2.2.1), zsum_z (a := m - 1) (b := 4) (by omega) (fun i h1 h2 => (h.2 i (by omega) h2).2.2.2)]
  have key : ∀ k, k ≤ m - 1 → zsum (G 22) k = mA7 F 5 k ∧ zsum (G 24) k = mA7 F 6 k := by
    intro k
    induction k with
    | zero => intro _; exact ⟨rfl, rfl⟩
    | succ k ih =>
      intro hk
      obtain ⟨i1, i2⟩ := ih (by omega)
      obtain ⟨⟨-, -, -, -, e5, e6⟩, -⟩ := h.1 k (by omega)
      refine ⟨?_, ?_⟩
      · show zsum (G 22) k + G 22 k = mA7 F 5 k + mLP F k 5
        rw [i1, e5]
        rfl
      · show zsum (G 24) k + G 24 k = mA7 F 6 k + mLP F k 6
        rw [i2, e6]
        rfl
  exact key (m - 1) (Nat.le_refl _)
theorem mA_c {F G : zF} (e : G 1 = F 1) : (∀ k, mA2 G k = mA2 F k) ∧ (∀ k, mA3 G k = mA3 F k) ∧ (∀ k, mA4 G k = mA4 F k) ∧ (∀ k, mA5 G k = mA5 F k) ∧ ∀ w k, mA7 G w k = mA7 F w k := by
  have eo : ∀ s w, mOf G s w = mOf F s w := fun s w => by unfold mOf; rw [e]
  have el : ∀ s w, mLP G s w = mLP F s w := fun s w => by unfold mLP; rw [e]
  refine ⟨fun k => ?_, fun k => ?_, fun k => ?_, fun k => ?_, fun w k => ?_⟩
  · induction k with
    | zero => rfl
    | succ k ih => unfold mA2; rw [ih, eo]
  · induction k with
    | zero => rfl
    | succ k ih => unfold mA3; rw [ih, eo, eo]
  · induction k with
    | zero => rfl
    | succ k ih =>
      unfold mA4 mWa
      rw [ih, e]
  · induction k with
    | zero => rfl
    | succ k ih =>
      unfold mA5 mHd
      rw [ih, el, el, el]
  · induction k with
    | zero => rfl
    | succ k ih => unfold mA7; rw [ih, el]
theorem k_account (w : Int32) : eCall sX8_account sX9_account [.ref 495, .int w] [.ref 0, .int w] [xA] := by
  intro Fc Fm h
  dsimp only [sX8_account, sX9_account]
  obtain ⟨n, m, tk, cv, hC⟩ := h.1
  obtain ⟨hS, h2, h3, h6, h7⟩ := hC
  obtain ⟨⟨hn, hm, hnm, ht⟩, ⟨s0, s1, s2, s3, s4, s5⟩, ⟨p4, p5, p6, p7, p8, p9, p10, p11⟩, -⟩ := hS
  have hG25 : (Fc 25 9).toNatClampNeg = n := by rw [s4]; exact nI_clamp (by omega)
  have hG89 : (Fc 8 9).toNatClampNeg = m - 1 := by rw [s5]; exact nI_clamp (by omega)
  have fin : ∀ {v v' : Int32}, v = v' → some (Value.int v) = some (Value.int v') ∧ mT Fm 0 0 = 0 ∧ eBoth Fc (mT Fm) := fun e => ⟨by rw [e], mT_00 _, eBoth_t h 0⟩
  have hb : ∀ k, k < m - 1 → ∃ b, b < 8 ∧ mLP Fm k 4 = nI b := fun k hk => by
    obtain ⟨-, -, -, -, -, -, len, c, nb, f, b, lb, ⟨-, -, -, -, lk4⟩, -⟩ := eLo_v h3 hm (k := k) (by omega)
    exact ⟨b, mB_8 lb.2.2.2.2.1 lb.2.2.2.2.2.2, lk4⟩
  obtain ⟨c2', c3', c4', c5', c7'⟩ := mA_c (mT_1 Fm)
  by_cases c2 : 0 ≤ w ∧ w ≤ 10
  · refine ⟨fun _ => ⟨_, rfl, n, m, hn, s2, hm, s1, hb, fun q => ?_, fun q => ?_, fun q => ?_, fun q => ?_, fun q => ?_, fun q => ?_, fun q => ?_, fun q => ?_, fun q => ?_, fun q => ?_, fun q => ?_, fun q => absurd c2 q⟩, fun q => absurd c2 q⟩
    · subst q
      exact fin ((s1.trans s3.symm).trans (if_pos rfl).symm)
    · subst q
      exact fin ((s2.trans s4.symm).trans ((if_neg (by decide)).trans (if_pos rfl)).symm)
    · subst q
      refine fin ?_
      unfold aAcc
      rw [if_neg (by decide), if_neg (by decide), if_pos rfl, hG25, eA2 hn hm h6 n (Nat.le_refl _), c2']
    · subst q
      refine fin ?_
      unfold aAcc
      rw [if_neg (by decide), if_neg (by decide), if_neg (by decide), if_pos rfl, hG89, qWcv_e Fc hG25, eA3 hn hm h7 h6 n (Nat.le_refl _), c3']
    · subst q
      refine fin ?_
      unfold aAcc
      rw [if_neg (by decide), if_neg (by decide), if_neg (by decide), if_neg (by decide), if_pos rfl, eA4 hm h2, c4']
    · subst q
      refine fin ?_
      unfold aAcc
      rw [if_neg (by decide), if_neg (by decide), if_neg (by decide), if_neg (by decide), if_neg (by decide), if_pos rfl, hG89, eA5 hm h3 (m - 1) (Nat.le_refl _), c5']
    · subst q
      refine fin ?_
      unfold aAcc
      rw [if_neg (by decide), if_neg (by decide), if_neg (by decide), if_neg (by decide), if_neg (by decide), if_neg (by decide), if_pos rfl, p8]
    · subst q
      refine fin ?_
      unfold aAcc
      rw [if_neg (by decide), if_neg (by decide), if_neg (by decide), if_neg (by decide), if_neg (by decide), if_neg (by decide), if_neg (by decide), if_pos rfl, p9]
    · subst q
      refine fin ?_
      unfold aAcc
      rw [if_neg (by decide), if_neg (by decide), if_neg (by decide), if_neg (by decide), if_neg (by decide), if_neg (by decide), if_neg (by decide), if_neg (by decide), if_pos rfl, (eA7 hm h3).2, c7']
    · subst q
      refine fin ?_
      unfold aAcc
      rw [if_neg (by decide), if_neg (by decide), if_neg (by decide), if_neg (by decide), if_neg (by decide), if_neg (by decide), if_neg (by decide), if_neg (by decide), if_neg (by decide), if_pos rfl, p10]
    · subst q
      refine fin ?_
      unfold aAcc
      rw [if_neg (by decide), if_neg (by decide), if_neg (by decide), if_neg (by decide), if_neg (by decide), if_neg (by decide), if_neg (by decide), if_neg (by decide), if_neg (by decide), if_neg (by decide), p11]
  · have no : ∀ j, j < 11 → ¬ w = nI j := fun j hj q => c2 (by rw [q]; exact ⟨nI_pos' (by omega), nI_le (b := 10) (by omega) (by decide)⟩)
    exact ⟨fun q => absurd q c2, fun _ => ⟨n, m, hn, s2, hm, s1, hb, fun q => absurd q (no 0 (by decide)), fun q => absurd q (no 1 (by decide)), fun q => absurd q (no 2 (by decide)), fun q => absurd q (no 3 (by decide)), fun q => absurd q (no 4 (by decide)), fun q => absurd q (no 5 (by decide)), fun q => absurd q (no 6 (by decide)), fun q => absurd q (no 7 (by decide)), fun q => absurd q (no 8 (by decide)), fun q => absurd q (no 9 (by decide)), fun q => absurd q (no 10 (by decide)), fun _ => eRs h 1 _ _ (by simp) (by decide) (by decide)⟩⟩
end ZEs
