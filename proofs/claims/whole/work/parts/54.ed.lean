/-! THE PURE PART: a row is locked: both sides -/
section ZEd
set_option maxRecDepth 20000
theorem eCutC {G F : zF} {n m t T B k : Nat} {cv : Nat → List Nat} (hC : eC G (F 1) n m t T B cv) {a : Nat} (ha : a < n) (hf : mOf F a 6 = nI a) (hrow : mRow F k (cv a) ≠ []) {R : List Nat} (hR : R = mRow F k (cv a)) {G1 F1 : zF} (hG1 : G1 = qCt G (nI a) (nI R.length)) (hF1 : F1 = mS2 F n k (cv a)) :
    eCv G1 (F1 1) n (eCut cv a R.length) ∧ eCut cv a R.length a = R ∧ (∀ c, c ≠ 41 → c ≠ 43 → G1 c = G c) ∧ (∀ x w, w < 9 → w ≠ 6 → w ≠ 7 → mOf F1 x w = mOf F x w) ∧ (∀ i, i < 53 → F1 1 i = F 1 i) ∧ (∀ c, c ≠ 0 → c ≠ 1 → c ≠ 8 → F1 c = F c) ∧ (∀ i, i ≠ 16 → F1 0 i = F 0 i) ∧ a ∈ R ∧ eHd R = nI a ∧ (∀ x, x ∈ R → x ∈ cv a) ∧ R.length ≤ 16 := by
  obtain ⟨h1, h2, h3, h6, h7⟩ := hC
  have hn := h1.1.1
  obtain ⟨d1, d2, d3⟩ := eCv_hd hn h7 ha hf
  obtain ⟨⟨c1, c2⟩, c3, c4, c5, c6⟩ := h7.2 a ha
  have hl := eCv_len hn h7 ha
  have hRt : R = (cv a).take R.length := by
    rw [hR]
    exact mRw_take F _ _ _
  have hRl : R.length ≤ (cv a).length := by
    rw [hR]
    exact mRw_len F _ _ _
  have hR1 : 1 ≤ R.length := by
    rw [← hR] at hrow
    cases R with
    | nil => exact absurd rfl hrow
    | cons x t => simp
  obtain ⟨p, hp⟩ : ∃ p, R.length = p + 1 := ⟨R.length - 1, by omega⟩
  have hq : qFi G (nI a) = nI a := (zrd_k _ (by omega) (by decide)).trans (c5 a d1).1
  have hcut := qCt_v hn h7 ha d3 hq hR1 hRl
  rw [← hG1, hp, Nat.add_sub_cancel] at hcut
  have hZ1 : (zls 8 16 F R) 1 = F 1 := by
    funext b
    unfold zls
    rw [if_neg (fun q => absurd q.1 (by decide)), if_neg (fun q => absurd q.1 (by decide))]
  have hZo : ∀ x w, mOf (zls 8 16 F R) x w = mOf F x w := fun x w => by unfold mOf; rw [hZ1]
  have hF1' : F1 = mSpl (zls 8 16 F R) n (cv a) (p + 1) := by
    rw [hF1, ← hp, hR]
    rfl
  have h16 : ∀ x, x < n → ¬ mOf (zls 8 16 F R) x 6 = 16 := fun x hx => by
    obtain ⟨b, hb, -, -, g, -⟩ := eCv_of hn h7 hx
    rw [hZo, g]
    exact fun q => absurd ((nI_eq (a := b) (b := 16) (by omega) (by omega)).mp q) (by omega)
  obtain ⟨k1, k2, k3⟩ := mSpl_r (zls 8 16 F R) n (cv a) (p + 1) hn c2 (fun x hx => eCv_lt h7 ha hx) h16
  rw [← hF1'] at k1 k2 k3
  have hlo : ∀ i, i < 53 → F1 1 i = F 1 i := fun i hi => by rw [hF1', mSpl_lo _ _ _ _ hi, hZ1]
  have hne : ∀ c, c ≠ 1 → F1 c = zls 8 16 F R c := fun c hc => by rw [hF1', mSpl_ne _ _ _ _ hc]
  refine ⟨?_, ?_, fun c q1 q2 => ?_, fun x w hw q1 q2 => (k3 x w hw q1 q2).trans (hZo x w), hlo, fun c q0 q1 q8 => ?_, fun i hi => ?_, ?_, ?_, fun x hx => ?_, by omega⟩
  · rw [hp]
    refine eCv_cut hn h7 ha d2 (by omega) ?_ (fun x hx => ?_) (fun x hx => ?_) (fun x hx => ?_) ?_ (fun x w hw hx => (k1 x w hw hx).trans (hZo x w)) k2 (fun x w hw q1 q2 => (k3 x w hw q1 q2).trans (hZo x w))
    · rw [hcut, eSt_ne _ _ _ _ (by decide), zup_at]
    · rw [hcut, eSt_ne _ _ _ _ (by decide), zup_an _ _ _ hx]
    · rw [hcut, eSt_in _ _ _ _ hx]
    · rw [hcut, eSt_out _ _ _ _ hx, zup_ne _ _ _ (by decide)]
    · rw [hcut, eSt_ne _ _ _ _ (by decide), zup_ne _ _ _ (by decide)]
  · unfold eCut
    rw [if_pos rfl]
    exact hRt.symm
  · rw [hcut, eSt_ne _ _ _ _ q1, zup_ne _ _ _ q2]
  · rw [hne c q1]
    funext b
    unfold zls
    rw [if_neg (fun q => q8 q.1), if_neg (fun q => q0 q.1)]
  · rw [hne 0 (by decide)]
    unfold zls
    rw [if_neg (fun q => absurd q.1 (by decide)), if_neg (fun q => hi q.2)]
  · rw [hRt]
    cases hL : cv a with
    | nil => rw [hL] at d1; exact nomatch d1
    | cons y u =>
      rw [hL] at d2
      cases d2
      rw [hp]
      exact List.mem_cons_self
  · rw [hRt, hp]
    cases hL : cv a with
    | nil => rw [hL] at d1; exact nomatch d1
    | cons y u =>
      rw [hL] at d2
      cases d2
      rfl
  · rw [hRt] at hx
    exact List.mem_of_mem_take hx
/-- the ships are as before, but for those of a list, whose numbers are told -/
theorem eSh_R {G H : zF} {M N : Nat → Int32} {n m T T' : Nat} (R : List Nat) (hTT : T ≤ T') (h : eSh G M n m T) (ho : ∀ s, s < n → ¬ s ∈ R → (∀ c, c = 27 ∨ c = 29 ∨ c = 31 ∨ c = 33 ∨ c = 35 ∨ c = 37 ∨ c = 39 → H c s = G c s) ∧ ∀ w, w = 0 ∨ w = 1 ∨ w = 2 ∨ w = 3 ∨ w = 4 ∨ w = 5 ∨ w = 8 → eO N s w = eO M s w)
    (hi : ∀ s, s < n → s ∈ R → ((∀ c, c = 27 ∨ c = 29 ∨ c = 31 ∨ c = 33 → H c s = G c s) ∧ ∀ w, w = 0 ∨ w = 1 ∨ w = 2 ∨ w = 3 → eO N s w = eO M s w) ∧ H 39 s = eO N s 8 ∧ ((eO N s 4 = -1 ∧ H 35 s = -1) ∨ ∃ k x u, eO M s 3 = nI u ∧ u ≤ 1 ∧ k + 1 < m ∧ H 35 s = nI k ∧ eO N s 4 = nI (k + u) ∧ H 37 s = eO N s 5 ∧ x ≤ T' ∧ eO N s 5 = nI x)) : eSh H N n m T' := by
  intro s hs
  obtain ⟨⟨e1, e2, e3, e4, e5⟩, z, d, r, u, g1, ⟨g2, g3, g4, g5⟩, g6⟩ := h s hs
  unfold eO at *
  unfold eSh1 eO
  by_cases hR : s ∈ R
  · obtain ⟨⟨q1, q2⟩, q3, q4⟩ := hi s hs hR
    rw [q1 27 (by simp), q1 29 (by simp), q1 31 (by simp), q1 33 (by simp), q2 0 (by simp), q2 1 (by simp), q2 2 (by simp), q2 3 (by simp)]
    refine ⟨⟨e1, e2, e3, e4, q3⟩, z, d, r, u, g1, ⟨g2, g3, g4, g5⟩, ?_⟩
    rcases q4 with q4 | ⟨k, x, u', r1, r2, r3, r4, r5, r6, r7, r8⟩
    · exact Or.inl q4
    · have := (nI_eq (by omega) (by omega)).mp (r1.symm.trans g5)
      subst this
      exact Or.inr ⟨k, x, r3, r4, r5, r6, r7, r8⟩
  · obtain ⟨q1, q2⟩ := ho s hs hR
    rw [q1 27 (by simp), q1 29 (by simp), q1 31 (by simp), q1 33 (by simp), q1 35 (by simp), q1 37 (by simp), q1 39 (by simp), q2 0 (by simp), q2 1 (by simp), q2 2 (by simp), q2 3 (by simp), q2 4 (by simp), q2 5 (by simp), q2 8 (by simp)]
    refine ⟨⟨e1, e2, e3, e4, e5⟩, z, d, r, u, g1, ⟨g2, g3, g4, g5⟩, ?_⟩
    rcases g6 with g6 | ⟨k, x, r1, r2, r3, r4, r5, r6⟩
    · exact Or.inl g6
    · exact Or.inr ⟨k, x, r1, r2, r3, r4, by omega, r6⟩
end ZEd
