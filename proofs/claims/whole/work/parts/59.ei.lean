/-! THE PURE PART: what is kept, saved, undone -/
section ZEi
set_option maxRecDepth 20000
/-- all but the canal of now -/
def eRst (Fc Fm : zF) : Prop :=
  (∃ b, b ≤ 1 ∧ Fc 495 5 = nI b ∧ Fm 0 5 = nI b ∧ (b = 1 → eCan (vw 90 Fc) (Fm 3))) ∧
  (∃ u w, u ≤ 8 ∧ w < 8 ∧ Fc 496 2 = nI u ∧ Fc 496 1 = nI w ∧ Fm 0 3 = nI u ∧ ∀ j, j < u → eCan (vw (135 + 45 * ((w + 8 - j) % 8)) Fc) (fun i => Fm 2 (197 * (u - 1 - j) + i))) ∧
  (∃ l, l ≤ 50 ∧ Fc 498 5 = nI l ∧ Fm 0 8 = nI l ∧ ∀ i, i < l → Fc 500 i = Fm 5 i) ∧ Fc 495 6 = Fm 0 10 ∧ Fc 495 7 = Fm 0 11
/-- both sides stand alike -/
def eBoth (Fc Fm : zF) : Prop := eCan Fc (Fm 1) ∧ eRst Fc Fm
theorem eRst_o {Fc Fm Gc Gm : zF} (h : eRst Fc Fm) (hc : ∀ c, 90 ≤ c → Gc c = Fc c) (h2 : Gm 2 = Fm 2) (h3 : Gm 3 = Fm 3) (h5 : Gm 5 = Fm 5) (h0 : ∀ i, i = 3 ∨ i = 5 ∨ i = 8 ∨ i = 10 ∨ i = 11 → Gm 0 i = Fm 0 i) : eRst Gc Gm := by
  have hv : ∀ b, 90 ≤ b → vw b Gc = vw b Fc := fun b hb => by
    funext k
    exact hc (b + k) (by omega)
  unfold eRst
  rw [hc 495 (by decide), hc 496 (by decide), hc 498 (by decide), hc 500 (by decide), h2, h3, h5, h0 3 (by simp), h0 5 (by simp), h0 8 (by simp), h0 10 (by simp), h0 11 (by simp), hv 90 (by decide)]
  obtain ⟨a1, ⟨u, w, b1, b2, b3, b4, b5, b6⟩, a3⟩ := h
  exact ⟨a1, ⟨u, w, b1, b2, b3, b4, b5, fun j hj => by rw [hv _ (by omega)]; exact b6 j hj⟩, a3⟩
theorem zcpr_in (F : zF) (j i n : Nat) {b : Nat} (h : b < n) : zcpr F j i n j b = F i b := by
  unfold zcpr
  rw [if_pos rfl, if_pos h]
/-- a copied canal -/
theorem eQ_C (X : zF) : eQ (fun c => X (45 + c)) (qCpC X) := by
  intro c i h
  unfold eDom at h
  split at h
  · have hi : i = 4 ∨ i = 5 ∨ i = 6 ∨ i = 7 ∨ i = 8 ∨ i = 9 ∨ i = 10 := by
      simp at h
      omega
    rcases hi with rfl | rfl | rfl | rfl | rfl | rfl | rfl <;> simp [qCpC, zup]
  · have hi : i = 3 := by simpa using h
    subst hi
    simp [qCpC, qCpF, qCpL, qCpR, zup, zcpr]
  · have hi : i < 5 := by simpa using h
    simp [qCpC, qCpF, qCpL, qCpR, zup, zcpr, hi]
  · have hi : i < 5 := by simpa using h
    simp [qCpC, qCpF, qCpL, qCpR, zup, zcpr, hi]
  · have hi : i < 5 := by simpa using h
    simp [qCpC, qCpF, qCpL, qCpR, zup, zcpr, hi]
  · have hi : i = 8 ∨ i = 9 := by
      simp at h
      omega
    rcases hi with rfl | rfl <;> simp [qCpC, qCpF, qCpL, qCpR, zup, zcpr]
  · have hi : i < 4 := by simpa using h
    simp [qCpC, qCpF, qCpL, qCpR, zup, zcpr, hi]
  · have hi : i < 4 := by simpa using h
    simp [qCpC, qCpF, qCpL, qCpR, zup, zcpr, hi]
  · have hi : i < 4 := by simpa using h
    simp [qCpC, qCpF, qCpL, qCpR, zup, zcpr, hi]
  · have hi : i < 4 := by simpa using h
    simp [qCpC, qCpF, qCpL, qCpR, zup, zcpr, hi]
  · have hi : i < 4 := by simpa using h
    simp [qCpC, qCpF, qCpL, qCpR, zup, zcpr, hi]
  · have hi : i < 4 := by simpa using h
    simp [qCpC, qCpF, qCpL, qCpR, zup, zcpr, hi]
  · have hi : i < 4 := by simpa using h
    simp [qCpC, qCpF, qCpL, qCpR, zup, zcpr, hi]
  · have hi : i < 4 := by simpa using h
    simp [qCpC, qCpF, qCpL, qCpR, zup, zcpr, hi]
  · have hi : i = 9 := by simpa using h
    subst hi
    simp [qCpC, qCpF, qCpL, qCpR, zup, zcpr]
  · have hi : i < 16 := by simpa using h
    simp [qCpC, qCpF, qCpL, qCpR, zup, zcpr, hi]
  · have hi : i < 16 := by simpa using h
    simp [qCpC, qCpF, qCpL, qCpR, zup, zcpr, hi]
  · have hi : i < 16 := by simpa using h
    simp [qCpC, qCpF, qCpL, qCpR, zup, zcpr, hi]
  · have hi : i < 16 := by simpa using h
    simp [qCpC, qCpF, qCpL, qCpR, zup, zcpr, hi]
  · have hi : i < 16 := by simpa using h
    simp [qCpC, qCpF, qCpL, qCpR, zup, zcpr, hi]
  · have hi : i < 16 := by simpa using h
    simp [qCpC, qCpF, qCpL, qCpR, zup, zcpr, hi]
  · have hi : i < 16 := by simpa using h
    simp [qCpC, qCpF, qCpL, qCpR, zup, zcpr, hi]
  · have hi : i < 16 := by simpa using h
    simp [qCpC, qCpF, qCpL, qCpR, zup, zcpr, hi]
  · have hi : i < 16 := by simpa using h
    simp [qCpC, qCpF, qCpL, qCpR, zup, zcpr, hi]
  · cases h
theorem eQ_cp (F : zF) (j i : Nat) : eQ (vw i F) (vw j (zcp F j i)) := by
  intro c a h
  have hc := eDom_44 h
  have h1 := eQ_C (fun k => if k < 45 then F (j + k) else F (i + (k - 45))) c a h
  show zcp F j i (j + c) a = F (i + c) a
  unfold zcp
  rw [if_pos (by omega), show j + c - j = c by omega, h1]
  dsimp only
  rw [if_neg (by omega), show 45 + c - 45 = c by omega]
/-- a change is kept -/
theorem eKeep {Fc Fm : zF} (h : eBoth Fc Fm) : ∃ k u, k < 8 ∧ aNew Fc = nI k ∧ u ≤ 8 ∧ Fm 0 3 = nI u ∧ eRst (zcp (aKp Fc) (135 + 45 * k) 0) (mKeep Fm u) ∧ (∀ c, c < 90 → zcp (aKp Fc) (135 + 45 * k) 0 c = Fc c) ∧ mKeep Fm u 1 = Fm 1 ∧ (∀ c, c ≠ 0 → c ≠ 2 → mKeep Fm u c = Fm c) ∧ ∀ i, i ≠ 3 → mKeep Fm u 0 i = Fm 0 i := by
  obtain ⟨hn, ⟨b, b1, b2, b3, b4⟩, ⟨u, w, u1, u2, u3, u4, u5, u6⟩, ⟨l, l1, l2, l3, l4⟩, f1, f2⟩ := h
  have hk : aNew Fc = nI ((w + 1) % 8) := by
    unfold aNew
    rw [u4, nI_1]
    by_cases h7 : w + 1 < 8
    · rw [if_pos (show nI (w + 1) < 8 from nI_lt (b := 8) h7 (by decide)), Nat.mod_eq_of_lt h7]
    · rw [if_neg (show ¬ nI (w + 1) < 8 from nI_nlt (b := 8) (by omega) (by omega)), show w = 7 by omega]
      rfl
  have hcc : ∀ c, c ≠ 496 → (c < 135 + 45 * ((w + 1) % 8) ∨ 135 + 45 * ((w + 1) % 8) + 45 ≤ c) → zcp (aKp Fc) (135 + 45 * ((w + 1) % 8)) 0 c = Fc c := fun c q1 q2 => by
    rw [zcp_out _ _ _ q2]
    unfold aKp
    rw [zup_ne _ _ _ q1, zup_ne _ _ _ q1]
  have hk1 : ∀ c, c ≠ 0 → c ≠ 2 → mKeep Fm u c = Fm c := fun c q0 q2 => by
    unfold mKeep mPush mShift
    split <;> (funext i; simp [zup, q0, q2])
  have hk0 : ∀ i, i ≠ 3 → mKeep Fm u 0 i = Fm 0 i := fun i q => by
    unfold mKeep mPush mShift
    split <;> simp [zup, q]
  have h03 : mKeep Fm u 0 3 = nI (if u < 8 then u + 1 else 8) := by
    unfold mKeep
    by_cases h8 : u = 8
    · subst h8
      rw [if_pos rfl, if_neg (by decide), zup_at]
      rfl
    · rw [if_neg h8, if_pos (by omega), zup_at]
  have h496 : zcp (aKp Fc) (135 + 45 * ((w + 1) % 8)) 0 496 = aKp Fc 496 := zcp_out _ _ _ (by omega)
  have hw1 : aKp Fc 496 1 = nI ((w + 1) % 8) := by
    unfold aKp
    rw [zup_an _ _ _ (by decide), zup_at, hk]
  have hw2 : aKp Fc 496 2 = nI (if u < 8 then u + 1 else 8) := by
    unfold aKp
    rw [zup_at, u3, nI_1, show (8 : Int32) = nI 8 from rfl, eMinI (by omega) (by decide)]
    congr 1
  refine ⟨(w + 1) % 8, u, by omega, hk, u1, u5, ⟨⟨b, b1, ?_, ?_, fun hb => ?_⟩, ⟨if u < 8 then u + 1 else 8, (w + 1) % 8, by split <;> omega, by omega, ?_, ?_, h03, fun j hj => ?_⟩, ⟨l, l1, ?_, ?_, fun i hi => ?_⟩, ?_, ?_⟩, fun c hc => hcc c (by omega) (by omega), hk1 1 (by decide) (by decide), hk1, hk0⟩
  · rw [hcc 495 (by decide) (by omega)]; exact b2
  · rw [hk0 5 (by decide)]; exact b3
  · rw [hk1 3 (by decide) (by decide)]
    have e : vw 90 (zcp (aKp Fc) (135 + 45 * ((w + 1) % 8)) 0) = fun k => if k < 45 then vw 90 Fc k else zcp (aKp Fc) (135 + 45 * ((w + 1) % 8)) 0 (90 + k) := by
      funext k
      by_cases hk45 : k < 45
      · rw [if_pos hk45]
        exact hcc (90 + k) (by omega) (by omega)
      · rw [if_neg hk45]
        rfl
    refine eCan_q (G := vw 90 Fc) (eQ_44 (fun c hc => ?_)) (eM_r _) (b4 hb)
    rw [e]
    dsimp only
    rw [if_pos (by omega)]
  · rw [h496]; exact hw2
  · rw [h496]; exact hw1
  · by_cases hj0 : j = 0
    · subst hj0
      have e1 : ((w + 1) % 8 + 8 - 0) % 8 = (w + 1) % 8 := by omega
      rw [e1]
      refine eCan_q (G := Fc) (M := Fm 1) ?_ (fun i hi => ?_) hn
      · intro c i h
        have h1 := eQ_cp (aKp Fc) (135 + 45 * ((w + 1) % 8)) 0 c i h
        have hc := eDom_44 h
        rw [h1]
        show aKp Fc (0 + c) i = Fc c i
        rw [Nat.zero_add]
        unfold aKp
        rw [zup_ne _ _ _ (by omega), zup_ne _ _ _ (by omega)]
      · unfold mKeep
        by_cases h8 : u = 8
        · subst h8
          rw [if_pos rfl, if_neg (by decide), zup_ne _ _ _ (by decide)]
          unfold mPush
          rw [if_pos ⟨rfl, by omega, by omega⟩, zup_ne _ _ _ (by decide)]
          unfold mShift
          rw [if_neg (fun q => absurd q.1 (by decide))]
          congr 1
          omega
        · rw [if_neg h8, if_pos (by omega), zup_ne _ _ _ (by decide)]
          unfold mPush
          rw [if_pos ⟨rfl, by omega, by omega⟩]
          congr 1
          omega
    · have hj8 : j - 1 < u := by split at hj <;> omega
      have e1 : ((w + 1) % 8 + 8 - j) % 8 = (w + 8 - (j - 1)) % 8 := by
        have : j ≤ 7 := by split at hj <;> omega
        omega
      have hne : (w + 8 - (j - 1)) % 8 ≠ (w + 1) % 8 := by
        have : j ≤ 7 := by split at hj <;> omega
        omega
      rw [e1]
      refine eCan_q ?_ (fun i hi => ?_) (u6 (j - 1) hj8)
      · refine eQ_44 (fun c hc => ?_)
        exact hcc (135 + 45 * ((w + 8 - (j - 1)) % 8) + c) (by omega) (by omega)
      · unfold mKeep
        by_cases h8 : u = 8
        · subst h8
          rw [if_pos rfl, if_neg (by decide), zup_ne _ _ _ (by decide)]
          unfold mPush
          rw [if_neg (fun q => absurd q.2.1 (by omega)), zup_ne _ _ _ (by decide)]
          unfold mShift
          rw [if_pos ⟨rfl, by omega⟩]
          congr 1
          omega
        · rw [if_neg h8, if_pos (by omega), zup_ne _ _ _ (by decide)]
          unfold mPush
          rw [if_neg (fun q => absurd q.2.1 (by omega))]
          congr 1
          omega
  · rw [hcc 498 (by decide) (by omega)]; exact l2
  · rw [hk0 8 (by decide)]; exact l3
  · rw [hcc 500 (by decide) (by omega), hk1 5 (by decide) (by decide)]; exact l4 i hi
  · rw [hcc 495 (by decide) (by omega), hk0 10 (by decide)]; exact f1
  · rw [hcc 495 (by decide) (by omega), hk0 11 (by decide)]; exact f2
end ZEi
