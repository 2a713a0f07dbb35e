/-! THE PURE PART: set, ships are made -/
section ZEj
set_option maxRecDepth 20000
/-- the number of a catch -/
def eCd : List String → Int32 → String → Int32
  | [], _, _ => 0
  | a :: r, k, E => if E = a then k else eCd r (k + 1) E
/-- a call of both sides answers alike, and both stand alike behind it -/
def eCall (spc spm : zSp) (ac am : List Value) (names : List String) : Prop := ∀ Fc Fm, eBoth Fc Fm → spc ac Fc (fun r Fc' => ∃ v, r = some (.int v) ∧ spm am Fm (fun r' Fm' => r' = some (.int v) ∧ Fm' 0 0 = 0 ∧ eBoth Fc' Fm') (fun _ _ => False))
  (fun E Fc' => spm am Fm (fun r' Fm' => (∃ v, r' = some (.int v)) ∧ (Fm' 0 0 = eCd names 1 E ∧ ¬ eCd names 1 E = 0 ∧ E ∈ names) ∧ eBoth Fc' Fm') (fun _ _ => False))
theorem eBoth_0 {Fc Fm Gm : zF} (h : eBoth Fc Fm) (hc : ∀ c, c = 1 ∨ c = 2 ∨ c = 3 ∨ c = 5 → Gm c = Fm c) (h0 : ∀ i, i = 3 ∨ i = 5 ∨ i = 8 ∨ i = 10 ∨ i = 11 → Gm 0 i = Fm 0 i) : eBoth Fc Gm :=
  ⟨by rw [hc 1 (by simp)]; exact h.1, eRst_o h.2 (fun _ _ => rfl) (hc 2 (by simp)) (hc 3 (by simp)) (hc 5 (by simp)) h0⟩
theorem eBoth_t {Fc Fm : zF} (h : eBoth Fc Fm) (v : Int32) : eBoth Fc (zup Fm 0 0 v) :=
  eBoth_0 h (fun c hc => zup_ne _ _ _ (by omega)) (fun i hi => zup_an _ _ _ (by omega))
theorem eNat3 {x : Int32} {n : Nat} (h0 : 0 ≤ x) (h : x < nI n) (hn : n < 2 ^ 31) : ∃ j, j < n ∧ x = nI j := by
  obtain ⟨j, h1, h2⟩ := nI_of (Int32.not_lt.mpr h0)
  rw [h2, nI_ltI h1 hn] at h
  exact ⟨j, h, h2⟩
theorem eNat4 {x : Int32} {a n : Nat} (h0 : nI a ≤ x) (h : x ≤ nI n) (ha : a < 2 ^ 31) (hn : n < 2 ^ 31) : ∃ j, a ≤ j ∧ j ≤ n ∧ x = nI j := by
  have h3 : ¬ x < 0 := by
    rw [Int32.lt_iff_toInt_lt]
    rw [Int32.le_iff_toInt_le, nI_toInt ha] at h0
    have : (0 : Int32).toInt = 0 := rfl
    omega
  obtain ⟨j, h1, h2⟩ := nI_of h3
  rw [h2, nI_leI ha h1] at h0
  rw [h2, nI_leI h1 hn] at h
  exact ⟨j, h0, h, h2⟩
theorem eSet {G F : zF} {n m t B : Nat} {cv : Nat → List Nat} (hC : eC G (F 1) n m t t B cv) {j v : Nat} (hj : j < 3) (hv : (if j = 0 then 1 else 0) ≤ v ∧ v ≤ (if j = 0 then 20 else if j = 1 then 50 else 99)) :
    aSetV G (nI j) = F 1 (3 + j) ∧ eC (aSetF G (nI j) (nI v)) (zup F 1 (3 + j) (nI v) 1) n m t t B cv := by
  obtain ⟨h1, h2, h3, h6, h7⟩ := hC
  obtain ⟨⟨hn, hm, hnm, ht⟩, ⟨s0, s1, s2, s3, s4, s5⟩, ⟨p4, p5, p6, p7, p8, p9, p10, p11⟩, k1, k2, k3⟩ := h1
  have hM : ∀ i, i ≠ 3 + j → zup F 1 (3 + j) (nI v) 1 i = F 1 i := fun i q => zup_an _ _ _ q
  have hA : aSetF G (nI j) (nI v) = zup G 0 (4 + j) (nI v) ∧ aSetV G (nI j) = G 0 (4 + j) := by
    unfold aSetF aSetV
    rcases (show j = 0 ∨ j = 1 ∨ j = 2 by omega) with rfl | rfl | rfl
    · exact ⟨if_pos rfl, if_pos rfl⟩
    · exact ⟨(if_neg (by decide)).trans (if_pos rfl), (if_neg (by decide)).trans (if_pos rfl)⟩
    · exact ⟨(if_neg (by decide)).trans (if_neg (by decide)), (if_neg (by decide)).trans (if_neg (by decide))⟩
  rw [hA.1, hA.2]
  have hc : ∀ c, c ≠ 0 → zup G 0 (4 + j) (nI v) c = G c := fun c q => zup_ne _ _ _ q
  refine ⟨?_, ?_, ?_, ?_, ?_, ?_⟩
  · rcases (show j = 0 ∨ j = 1 ∨ j = 2 by omega) with rfl | rfl | rfl
    · exact p4
    · exact p5
    · exact p6
  · unfold eS
    rcases (show j = 0 ∨ j = 1 ∨ j = 2 by omega) with rfl | rfl | rfl
    · simp only [zup, if_true]
      simp
      exact ⟨⟨hn, hm, hnm, ht⟩, ⟨s0, s1, s2, s3, s4, s5⟩, ⟨p5, p6, p7, p8, p9, p10, p11⟩, ⟨v, by simpa using hv.1, by simpa using hv.2, rfl⟩, k2, k3⟩
    · simp only [zup, if_true]
      simp
      exact ⟨⟨hn, hm, hnm, ht⟩, ⟨s0, s1, s2, s3, s4, s5⟩, ⟨p4, p6, p7, p8, p9, p10, p11⟩, k1, ⟨v, by simpa using hv.2, rfl⟩, k3⟩
    · simp only [zup, if_true]
      simp
      exact ⟨⟨hn, hm, hnm, ht⟩, ⟨s0, s1, s2, s3, s4, s5⟩, ⟨p4, p5, p7, p8, p9, p10, p11⟩, k1, k2, ⟨v, by simpa using hv.2, rfl⟩⟩
  · refine ⟨fun r hr => ?_, fun r q1 q2 => ?_⟩
    · have q := h2.1 r hr
      unfold eRe1 eR at *
      rw [hM (10 + 3 * r) (by omega), hM (10 + 3 * r + 1) (by omega), hM (10 + 3 * r + 2) (by omega), hc 3 (by decide), hc 5 (by decide), hc 7 (by decide)]
      exact q
    · rw [hc 7 (by decide)]
      exact h2.2 r q1 q2
  · refine ⟨fun k hk => ?_, fun k q1 q2 => ?_⟩
    · have q := h3.1 k hk
      unfold eLo1 eP at *
      rw [hc 10 (by decide), hc 12 (by decide), hc 14 (by decide), hc 16 (by decide), hc 18 (by decide), hc 20 (by decide), hc 22 (by decide), hc 24 (by decide), hM (25 + 7 * k + 0) (by omega), hM (25 + 7 * k + 1) (by omega), hM (25 + 7 * k + 2) (by omega), hM (25 + 7 * k + 3) (by omega), hM (25 + 7 * k + 4) (by omega), hM (25 + 7 * k + 5) (by omega), hM (25 + 7 * k + 6) (by omega)]
      exact q
    · rw [hc 18 (by decide), hc 20 (by decide), hc 22 (by decide), hc 24 (by decide)]
      exact h3.2 k q1 q2
  · exact eSh_o (fun c q1 q2 => hc c (by omega)) (fun i hi => hM i (by omega)) h6
  · exact eCv_o (fun c q1 q2 => hc c (by omega)) (fun i hi => hM i (by omega)) h7
/-- behind keep -/
theorem eKept {Fc Fm : zF} (h : eBoth Fc Fm) : ∃ k u, k < 8 ∧ aNew Fc = nI k ∧ u ≤ 8 ∧ Fm 0 3 = nI u ∧ mKeep (mT Fm) u 1 = Fm 1 ∧ mKeep (mT Fm) u 0 0 = 0 ∧ (∀ c, c ≠ 0 → c ≠ 2 → mKeep (mT Fm) u c = Fm c) ∧ (∀ i, i ≠ 3 → i ≠ 0 → mKeep (mT Fm) u 0 i = Fm 0 i) ∧
    (∀ c, c < 90 → zcp (aKp Fc) (135 + 45 * k) 0 c = Fc c) ∧
    (∀ n m t T B cv, eC Fc (Fm 1) n m t T B cv → eC (zcp (aKp Fc) (135 + 45 * k) 0) (mKeep (mT Fm) u 1) n m t T B cv) ∧
    ∀ Gc Gm, eCan Gc (Gm 1) → (∀ c, 45 ≤ c → Gc c = zcp (aKp Fc) (135 + 45 * k) 0 c) → Gm 2 = mKeep (mT Fm) u 2 → Gm 3 = mKeep (mT Fm) u 3 → Gm 5 = mKeep (mT Fm) u 5 → (∀ i, i = 3 ∨ i = 5 ∨ i = 8 ∨ i = 10 ∨ i = 11 → Gm 0 i = mKeep (mT Fm) u 0 i) → eBoth Gc Gm := by
  obtain ⟨k, u, h1, h2, h3, h4, h5, h6, h7, h8, h9⟩ := eKeep (eBoth_t h 0)
  have h03 : Fm 0 3 = nI u := by
    rw [← h4, zup_an _ _ _ (by decide)]
  have e1 : mKeep (mT Fm) u 1 = Fm 1 := by rw [h7, zup_ne _ _ _ (by decide)]
  refine ⟨k, u, h1, h2, h3, h03, e1, ?_, fun c q0 q2 => ?_, fun i q3 q0 => ?_, h6, fun n m t T B cv hC => ?_, fun Gc Gm g1 g2 g3 g4 g5 g6 => ⟨g1, eRst_o h5 (fun c hc => g2 c (by omega)) g3 g4 g5 g6⟩⟩
  · rw [h9 0 (by decide), zup_at]
  · rw [h8 c q0 q2, zup_ne _ _ _ q0]
  · rw [h9 i q3, zup_an _ _ _ q0]
  · rw [e1]
    exact eC_q (eQ_44 (fun c hc => h6 c (by omega))) (eM_r _) hC
theorem k_set (s v : Int32) : eCall sX8_set sX9_set [.ref 495, .int s, .int v] [.ref 0, .int s, .int v] [xI, xA] := by
  intro Fc Fm h
  dsimp only [sX8_set, sX9_set]
  have hs3 : (0 ≤ s ∧ s < 3) ↔ (0 ≤ s ∧ s ≤ 2) := by
    rw [Int32.le_iff_toInt_le, Int32.lt_iff_toInt_lt, Int32.le_iff_toInt_le, show (3 : Int32).toInt = 3 from rfl, show (2 : Int32).toInt = 2 from rfl]
    omega
  refine ⟨fun c1 => ⟨fun c2 => ?_, fun c2 => ?_⟩, fun c1 => ?_⟩
  · obtain ⟨k, u, h1, h2, h3, h4, h5, h6, h7, h8, h9, h10, h11⟩ := eKept h
    obtain ⟨j, hj, rfl⟩ := eNat3 (n := 3) c1.1 c1.2 (by decide)
    obtain ⟨n, m, t, cv, hC⟩ := h.1
    have hC2 := h10 _ _ _ _ _ _ hC
    obtain ⟨w, hw0, hw1, rfl⟩ : ∃ w, (if j = 0 then 1 else 0) ≤ w ∧ w ≤ (if j = 0 then 20 else if j = 1 then 50 else 99) ∧ v = nI w := by
      rcases (show j = 0 ∨ j = 1 ∨ j = 2 by omega) with rfl | rfl | rfl
      · exact eNat4 (a := 1) (n := 20) c2.1 c2.2 (by decide) (by decide)
      · exact eNat4 (a := 0) (n := 50) c2.1 c2.2 (by decide) (by decide)
      · exact eNat4 (a := 0) (n := 99) c2.1 c2.2 (by decide) (by decide)
    obtain ⟨r1, r2⟩ := eSet hC2 hj ⟨hw0, hw1⟩
    refine ⟨k, h1, h2, _, rfl, ?_⟩
    rw [r1]
    refine ⟨fun _ => ⟨fun _ => ⟨u, j, h3, h4, hj, rfl, rfl, ?_, ?_⟩, fun q => absurd c2 q⟩, fun q => absurd (hs3.mp c1) q⟩
    · rw [zup_ne _ _ _ (by decide)]
      exact h6
    · refine h11 _ _ ⟨n, m, t, cv, r2⟩ (fun c hc => ?_) (zup_ne _ _ _ (by decide)) (zup_ne _ _ _ (by decide)) (zup_ne _ _ _ (by decide)) (fun i hi => by rw [zup_ne _ _ _ (by decide)])
      unfold aSetF
      split
      · exact zup_ne _ _ _ (by omega)
      · split <;> exact zup_ne _ _ _ (by omega)
  · refine ⟨fun _ => ⟨fun q => absurd q c2, fun _ => ⟨⟨_, rfl⟩, ⟨?_, by decide, by simp⟩, eBoth_t (eBoth_t h 0) 2⟩⟩, fun q => absurd (hs3.mp c1) q⟩
    rw [zup_at]
    decide
  · refine ⟨fun q => absurd (hs3.mpr q) c1, fun _ => ⟨⟨_, rfl⟩, ⟨?_, by decide, by simp⟩, eBoth_t (eBoth_t h 0) 1⟩⟩
    rw [zup_at]
    decide
end ZEj
