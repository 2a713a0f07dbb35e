/-! THE PURE PART: a row is locked -/
section ZEc
set_option maxRecDepth 20000
/-- the rest of the reference's object, the ships that left -/
def eFr (F H : zF) (n : Nat) : Prop := (∀ c, c ≠ 0 → c ≠ 1 → c ≠ 7 → c ≠ 8 → c ≠ 9 → H c = F c) ∧ (∀ i, i ≠ 14 → i ≠ 16 → i ≠ 18 → H 0 i = F 0 i) ∧ H 0 18 = F 0 18 + (nI (mSr H (-1) n) - nI (mSr F (-1) n))
theorem mSr_c (F H : zF) (r : Int32) : ∀ n, (∀ s, s < n → (mOf H s 4 = r ↔ mOf F s 4 = r)) → mSr H r n = mSr F r n
  | 0, _ => rfl
  | n + 1, h => by
    unfold mSr
    rw [mSr_c F H r n (fun s hs => h s (by omega))]
    by_cases h1 : mOf F n 4 = r
    · rw [if_pos h1, if_pos ((h n (by omega)).mpr h1)]
    · rw [if_neg h1, if_neg (fun q => h1 ((h n (by omega)).mp q))]
theorem mSr_add (F H : zF) (r : Int32) : ∀ (n : Nat) (R : List Nat), R.Nodup → (∀ x, x ∈ R → x < n ∧ ¬ mOf F x 4 = r ∧ mOf H x 4 = r) → (∀ x, ¬ x ∈ R → mOf H x 4 = mOf F x 4) → mSr H r n = mSr F r n + R.length
  | 0, R, _, h, _ => by
    cases R with
    | nil => rfl
    | cons x t => exact absurd (h x List.mem_cons_self).1 (Nat.not_lt_zero x)
  | n + 1, R, hd, h, ho => by
    unfold mSr
    by_cases hn : n ∈ R
    · obtain ⟨-, h1, h2⟩ := h n hn
      have e : mSr H r n = mSr (fun c i => if c = 1 ∧ i = 53 + 9 * n + 4 then F 1 (53 + 9 * n + 4) else H c i) r n := by
        refine mSr_c _ _ r n (fun s hs => ?_)
        unfold mOf
        simp only [true_and]
        rw [if_neg (by omega)]
      have ih := mSr_add F (fun c i => if c = 1 ∧ i = 53 + 9 * n + 4 then F 1 (53 + 9 * n + 4) else H c i) r n (R.erase n) (hd.erase n) (fun x hx => by
        have h3 := hd.mem_erase_iff.mp hx
        obtain ⟨q1, q2, q3⟩ := h x h3.2
        refine ⟨by omega, q2, ?_⟩
        unfold mOf at q3 ⊢
        simp only [true_and]
        rw [if_neg (by omega)]
        exact q3) (fun x hx => by
        unfold mOf
        simp only [true_and]
        by_cases hxn : x = n
        · rw [hxn, if_pos rfl]
        · rw [if_neg (by omega)]
          exact ho x (fun q => hx (hd.mem_erase_iff.mpr ⟨hxn, q⟩)))
      rw [if_neg h1, if_pos h2, e, ih, List.length_erase_of_mem hn]
      have := List.length_pos_of_mem hn
      omega
    · rw [mSr_add F H r n R hd (fun x hx => by
        obtain ⟨q1, q2, q3⟩ := h x hx
        refine ⟨?_, q2, q3⟩
        rcases Nat.lt_or_ge x n with q | q
        · exact q
        · exact absurd (by rw [show n = x by omega]; exact hx) hn) ho, ho n hn]
      omega
theorem eLe_s {G G2 F F2 : zF} {n m t B k p : Nat} (h1 : eS G (F 1) n m t) (h2 : eRe G (F 1) m B) (h3 : eLo G (F 1) m) (hk : k + 1 < m) (hm : m ≤ 5) (hG : ∀ c, c < 25 → G2 c = G c) (h25 : G2 25 = G 25) (hF : ∀ i, i < 53 → F2 1 i = F 1 i) :
    eS (zup (zup G2 22 k (G2 22 k + nI p)) 24 k (G2 24 k + 1)) (mLe F2 k p 1) n m t ∧ eRe (zup (zup G2 22 k (G2 22 k + nI p)) 24 k (G2 24 k + 1)) (mLe F2 k p 1) m B ∧ eLo (zup (zup G2 22 k (G2 22 k + nI p)) 24 k (G2 24 k + 1)) (mLe F2 k p 1) m := by
  have e : ∀ c, c < 25 → c ≠ 22 → c ≠ 24 → zup (zup G2 22 k (G2 22 k + nI p)) 24 k (G2 24 k + 1) c = G c := fun c hc q1 q2 => by
    rw [zup_ne _ _ _ q2, zup_ne _ _ _ q1, hG c hc]
  have eo : ∀ c r, c < 25 → r ≠ k → zup (zup G2 22 k (G2 22 k + nI p)) 24 k (G2 24 k + 1) c r = G c r := fun c r hc hr => by
    rw [← hG c hc]
    simp [zup, hr]
  have ek : zup (zup G2 22 k (G2 22 k + nI p)) 24 k (G2 24 k + 1) 22 k = G 22 k + nI p ∧ zup (zup G2 22 k (G2 22 k + nI p)) 24 k (G2 24 k + 1) 24 k = G 24 k + 1 := by
    rw [zup_at, zup_ne _ _ _ (by decide), zup_at, hG 22 (by decide), hG 24 (by decide)]
    exact ⟨rfl, rfl⟩
  have hN : ∀ i, i < 53 → i ≠ 25 + 7 * k + 5 → i ≠ 25 + 7 * k + 6 → mLe F2 k p 1 i = F 1 i := fun i hi q1 q2 => by
    unfold mLe
    rw [zup_an _ _ _ q2, zup_an _ _ _ q1, hF i hi]
  have hNk : mLe F2 k p 1 (25 + 7 * k + 5) = F 1 (25 + 7 * k + 5) + nI p ∧ mLe F2 k p 1 (25 + 7 * k + 6) = F 1 (25 + 7 * k + 6) + 1 := by
    unfold mLe
    rw [zup_at, zup_an _ _ _ (by omega), zup_at, hF _ (by omega), hF _ (by omega)]
    exact ⟨rfl, rfl⟩
  refine ⟨eS_u h1 (e 0 (by decide) (by decide) (by decide)) (e 1 (by decide) (by decide) (by decide)) (by rw [e 8 (by decide) (by decide) (by decide)]) ?_ (fun i hi _ => hN i (by omega) (by omega) (by omega)) ?_, ⟨fun r hr => ?_, fun r q1 q2 => ?_⟩, ⟨fun r hr => ?_, fun r q1 q2 => ?_⟩⟩
  · rw [zup_ne _ _ _ (by decide), zup_ne _ _ _ (by decide), h25]
  · rw [e 8 (by decide) (by decide) (by decide), hN 8 (by decide) (by omega) (by omega)]
    exact h1.2.2.1.2.2.2.2.2.2.1
  · have q := h2.1 r hr
    unfold eRe1 eR at *
    rw [e 3 (by decide) (by decide) (by decide), e 5 (by decide) (by decide) (by decide), e 7 (by decide) (by decide) (by decide), hN (10 + 3 * r) (by omega) (by omega) (by omega), hN (10 + 3 * r + 1) (by omega) (by omega) (by omega), hN (10 + 3 * r + 2) (by omega) (by omega) (by omega)]
    exact q
  · rw [e 7 (by decide) (by decide) (by decide)]
    exact h2.2 r q1 q2
  · obtain ⟨⟨q1, q2, q3, q4, q5, q6⟩, q7⟩ := h3.1 r hr
    unfold eP at *
    unfold eLo1 eP
    rw [e 10 (by decide) (by decide) (by decide), e 12 (by decide) (by decide) (by decide), e 14 (by decide) (by decide) (by decide), e 16 (by decide) (by decide) (by decide), e 18 (by decide) (by decide) (by decide), e 20 (by decide) (by decide) (by decide), hN (25 + 7 * r + 0) (by omega) (by omega) (by omega), hN (25 + 7 * r + 1) (by omega) (by omega) (by omega), hN (25 + 7 * r + 2) (by omega) (by omega) (by omega), hN (25 + 7 * r + 3) (by omega) (by omega) (by omega), hN (25 + 7 * r + 4) (by omega) (by omega) (by omega)]
    refine ⟨⟨q1, q2, q3, q4, ?_, ?_⟩, q7⟩
    · by_cases hrk : r = k
      · rw [hrk, ek.1, hNk.1, ← hrk, q5]
      · rw [eo 22 r (by decide) hrk, hN (25 + 7 * r + 5) (by omega) (by omega) (by omega), q5]
    · by_cases hrk : r = k
      · rw [hrk, ek.2, hNk.2, ← hrk, q6]
      · rw [eo 24 r (by decide) hrk, hN (25 + 7 * r + 6) (by omega) (by omega) (by omega), q6]
  · rw [e 18 (by decide) (by decide) (by decide), e 20 (by decide) (by decide) (by decide), eo 22 r (by decide) (by omega), eo 24 r (by decide) (by omega)]
    exact h3.2 r q1 q2
/-- waiting since this tick: also behind a cut -/
theorem eTi_cut {G F : zF} {n t : Nat} {cv : Nat → List Nat} (h : eCv G (F 1) n cv) (hT : eTi G F n t cv) {a p : Nat} (ha : a < n) : ∀ s, s < n → ¬ G 35 s = -1 → ∀ b, b < n → s ∈ eCut cv a p b → (G 37 s = nI (t + 1) ↔ G 37 b = nI (t + 1)) := by
  intro s hs h35 b hb hsb
  have key : ∀ x, x ∈ cv a → ∀ y, y ∈ cv a → ¬ G 35 x = -1 → (G 37 x = nI (t + 1) ↔ G 37 y = nI (t + 1)) := fun x hx y hy hx35 => by
    have q1 := ((h.2 a ha).2.2.2.1 x hx).2.1
    have q2 := ((h.2 a ha).2.2.2.1 y hy).2.1
    have q3 := (hT x (eCv_lt h ha hx) hx35).2 a ha hx
    have q4 := (hT y (eCv_lt h ha hy) (by rw [q2, ← q1]; exact hx35)).2 a ha hy
    exact q3.trans q4.symm
  unfold eCut at hsb
  split at hsb
  · rename_i hba
    have h1 := List.mem_of_mem_take hsb
    rw [hba]
    exact (hT s hs h35).2 a ha h1
  · split at hsb
    · rename_i hD
      exact key s (List.mem_of_mem_drop hsb) b (List.mem_of_mem_drop (List.mem_of_mem_head? hD)) h35
    · exact (hT s hs h35).2 b hb hsb
end ZEc
