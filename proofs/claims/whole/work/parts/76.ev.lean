/-! THE PURE PART: arrive -/
section ZEv
set_option maxRecDepth 20000
def eVa (v : zVa) : Prop := ∃ z d r u, (1 ≤ z ∧ z ≤ 9) ∧ (1 ≤ d ∧ d ≤ 99) ∧ r ≤ 3 ∧ u ≤ 1 ∧ v = (nI z, nI d, nI r, nI u)
theorem eVa2 {c : Nat → Int32} {q z d u : Nat} (hz : 1 ≤ z ∧ z ≤ 9) (hd : 1 ≤ d ∧ d ≤ 99) (hu : u ≤ 1) (h : (mPt2 c q (nI z) (nI d) (nI u)).1 = true) : eVa (mPt2 c q (nI z) (nI d) (nI u)).2.2 := by
  unfold mPt2 at h ⊢
  by_cases h1 : c q = 114
  · rw [if_pos h1] at h ⊢
    by_cases h2 : 48 ≤ c (q + 1) ∧ c (q + 1) ≤ 51
    · rw [if_pos h2]
      obtain ⟨-, j, j1, j2, j3, j4, j5⟩ := xDv h2.1 (Int32.le_trans h2.2 (by decide))
      exact ⟨z, d, j, u, hz, hd, j5 h2.2, hu, by rw [j3]⟩
    · rw [if_neg h2] at h
      exact absurd (show false = true from h) (by decide)
  · rw [if_neg h1]
    exact ⟨z, d, 0, u, hz, hd, by decide, hu, rfl⟩
theorem eVa1 {c : Nat → Int32} {p u : Nat} (hu : u ≤ 1) (h : (mPz c p (nI u)).1 = true) : eVa (mPz c p (nI u)).2.2 := by
  unfold mPz at h ⊢
  by_cases h1 : 49 ≤ c (p + 1) ∧ c (p + 1) ≤ 57
  · rw [if_pos h1] at h ⊢
    obtain ⟨-, a, a1, a2, a3, a4, -⟩ := xDv (Int32.le_trans (by decide) h1.1) h1.2
    by_cases h2 : c (p + 2) = 116
    · rw [if_pos h2] at h ⊢
      by_cases h3 : 49 ≤ c (p + 3) ∧ c (p + 3) ≤ 57
      · rw [if_pos h3] at h ⊢
        obtain ⟨-, b, b1, b2, b3, b4, -⟩ := xDv (Int32.le_trans (by decide) h3.1) h3.2
        have a5 := a4 h1.1
        have b5 := b4 h3.1
        by_cases h4 : 48 ≤ c (p + 4) ∧ c (p + 4) ≤ 57
        · rw [if_pos h4] at h ⊢
          obtain ⟨-, e, e1, e2, e3, -, -⟩ := xDv h4.1 h4.2
          have h5 : 10 * (c (p + 3) - 48) + c (p + 4) - 48 = nI (10 * b + e) := by
            rw [Int32.sub_eq_add_neg (10 * (c (p + 3) - 48) + c (p + 4)), Int32.add_assoc, ← Int32.sub_eq_add_neg, e3, b3, show (10 : Int32) = nI 10 from rfl, nI_mulc, nI_add]
          rw [h5, a3] at h ⊢
          exact eVa2 ⟨a5, a1⟩ ⟨by omega, by omega⟩ hu h
        · rw [if_neg h4] at h ⊢
          rw [a3, b3] at h ⊢
          exact eVa2 ⟨a5, a1⟩ ⟨b5, by omega⟩ hu h
      · rw [if_neg h3] at h
        exact absurd (show false = true from h) (by decide)
    · rw [if_neg h2] at h
      exact absurd (show false = true from h) (by decide)
  · rw [if_neg h1] at h
    exact absurd (show false = true from h) (by decide)
theorem eVa0 {c : Nat → Int32} {p : Nat} (h : (mPa c p).1 = true) : eVa (mPa c p).2.2 := by
  unfold mPa at h ⊢
  by_cases h1 : c p = 117
  · rw [if_pos h1] at h ⊢
    exact eVa1 (u := 1) (by decide) h
  · rw [if_neg h1] at h ⊢
    by_cases h2 : c p = 100
    · rw [if_pos h2] at h ⊢
      exact eVa1 (u := 0) (by decide) h
    · rw [if_neg h2] at h
      exact absurd (show false = true from h) (by decide)
theorem tAll {C : Nat → Int32} {l : Nat} (hl : l ≤ 50) : ∀ (d k : Nat) (F : zF) (L : List zVa), 11 ≤ d + L.length → 5 * L.length ≤ k → k ≤ l → tT F C l L →
    ((mAv (tCh C l) l d k).1 = false → (tR l k F 1).1 = nI (mAv (tCh C l) l d k).2.1 ∧ (mAv (tCh C l) l d k).2.1 ≤ l) ∧
    ((mAv (tCh C l) l d k).1 = true → (tR l k F 1).1 = -1 ∧ tT (tR l k F 1).2 C l (L ++ (mAv (tCh C l) l d k).2.2) ∧ (L ++ (mAv (tCh C l) l d k).2.2).length ≤ 10 ∧ ∀ v, v ∈ (mAv (tCh C l) l d k).2.2 → eVa v) := by
  intro d
  induction d with
  | zero =>
    intro k F L h1 h2 h3
    omega
  | succ d ih =>
    intro k F L h1 h2 h3 h4
    have hps := mPa_ps (c := tCh C l) (p := k) (l := l) (fun q hq => if_neg (by omega)) h3
    obtain ⟨q1, q2⟩ := tP0 h4 hl h3 (fun hk => by omega)
    have hva := eVa0 (c := tCh C l) (p := k)
    unfold mAv
    generalize mPa (tCh C l) k = R at hps q1 q2 hva ⊢
    by_cases hR : R.1 = true
    · rw [if_pos hR]
      obtain ⟨G, g1, g2⟩ := q2 hR
      have hL10 : (L ++ [R.2.2]).length ≤ 10 := by
        rw [List.length_append]
        show L.length + 1 ≤ 10
        have := hps.2 hR
        omega
      rw [g2]
      unfold tE
      by_cases hq : R.2.1 < l
      · rw [if_pos hq, if_neg (show ¬ R.2.1 = l by omega)]
        by_cases h44 : tCh C l R.2.1 = 44
        · rw [if_pos h44, if_pos h44]
          have hlen : (L ++ [R.2.2]).length = L.length + 1 := by rw [List.length_append]; rfl
          have := hps.2 hR
          obtain ⟨i1, i2⟩ := ih (R.2.1 + 1) G (L ++ [R.2.2]) (by omega) (by omega) (by omega) g1
          have e : ∀ t, L ++ [R.2.2] ++ t = L ++ R.2.2 :: t := fun t => by rw [List.append_assoc]; rfl
          rw [e] at i2
          refine ⟨i1, fun g => ?_⟩
          obtain ⟨j1, j2, j3, j4⟩ := i2 g
          exact ⟨j1, j2, j3, fun v hv => (List.mem_cons.mp hv).elim (fun hv => by rw [hv]; exact hva hR) (j4 v)⟩
        · rw [if_neg h44, if_neg h44]
          exact ⟨fun _ => ⟨rfl, hps.1⟩, fun g => absurd (show false = true from g) (by decide)⟩
      · rw [if_neg hq, if_pos (show R.2.1 = l by omega)]
        refine ⟨fun g => absurd (show true = false from g) (by decide), fun _ => ⟨rfl, g1, hL10, fun v hv => ?_⟩⟩
        rw [List.mem_singleton.mp hv]
        exact hva hR
    · rw [if_neg hR]
      exact ⟨fun _ => ⟨q1 (by cases hx : R.1 with | false => rfl | true => exact absurd hx hR), hps.1⟩, fun g => absurd (show false = true from g) (by decide)⟩
/-- behind a text both sides stand alike -/
theorem eBoth_a {Fc Fm Gc Gm : zF} {a b : Int32} (h : eBoth Fc Fm) (c1 : ∀ c, c < 498 → c ≠ 495 → Gc c = Fc c) (c2 : Gc 495 5 = Fc 495 5) (c3 : Gc 498 5 = 0) (c4 : Gc 495 6 = a) (c5 : Gc 495 7 = b)
    (m1 : ∀ c, c = 1 ∨ c = 2 ∨ c = 3 → Gm c = Fm c) (m2 : Gm 0 3 = Fm 0 3) (m3 : Gm 0 5 = Fm 0 5) (m4 : Gm 0 8 = 0) (m5 : Gm 0 10 = a) (m6 : Gm 0 11 = b) : eBoth Gc Gm := by
  obtain ⟨g1, ⟨b0, b1, b2, b3, b4⟩, ⟨u, w, u1, u2, u3, u4, u5, u6⟩, -, -, -⟩ := h
  refine ⟨?_, ⟨b0, b1, c2.trans b2, m3.trans b3, fun q => ?_⟩, ⟨u, w, u1, u2, ?_, ?_, m2.trans u5, fun j hj => ?_⟩, ⟨0, by decide, c3, m4, fun i hi => absurd hi (Nat.not_lt_zero i)⟩, c4.trans m5.symm, c5.trans m6.symm⟩
  · rw [m1 1 (by simp)]
    exact eCan_q (eQ_44 (fun c hc => c1 c (by omega) (by omega))) (eM_r _) g1
  · rw [m1 3 (by simp)]
    exact eCan_q (eQ_44 (fun c hc => c1 (90 + c) (by omega) (by omega))) (eM_r _) (b4 q)
  · rw [c1 496 (by decide) (by decide)]; exact u3
  · rw [c1 496 (by decide) (by decide)]; exact u4
  · rw [m1 2 (by simp)]
    exact eCan_q (eQ_44 (fun c hc => c1 _ (by omega) (by omega))) (eM_r _) (u6 j hj)
/-- the ships of a text are made -/
theorem eArr {G F : zF} {n m t B : Nat} {cv : Nat → List Nat} (hC : eC G (F 1) n m t t B cv) (L : List zVa) (hn : n + L.length ≤ 16) (hm2 : 2 ≤ m) (hL : L.length ≤ 10) (hv : ∀ v, v ∈ L → eVa v)
    (hr : ∀ j (v : zVa), L[j]? = some v → G 502 j = v.1 ∧ G 504 j = v.2.1 ∧ G 506 j = v.2.2.1 ∧ G 508 j = v.2.2.2) : ∀ i, i ≤ L.length →
    (∃ cv', eC (aArr G i) (mNl F n (L.take i) 1) (n + i) m t t B cv') ∧ ∀ c, 45 ≤ c → aArr G i c = G c := by
  intro i
  induction i with
  | zero => exact fun _ => ⟨⟨cv, hC⟩, fun _ _ => rfl⟩
  | succ i ih =>
    intro hi
    obtain ⟨⟨cv1, h1⟩, h2⟩ := ih (by omega)
    obtain ⟨v, hv1⟩ : ∃ v, L[i]? = some v := ⟨L[i]'(by omega), List.getElem?_eq_getElem (by omega)⟩
    obtain ⟨r1, r2, r3, r4⟩ := hr i v hv1
    obtain ⟨z, d, r, u, z1, d1, k1, u1, rfl⟩ := hv v (List.mem_of_getElem? hv1)
    have hl : (L.take i).length = i := by rw [List.length_take]; omega
    have e : aArr G (i + 1) = qMkC (aArr G i) (nI z) (nI d) (nI r) (if nI u = 1 then 1 else 0) := by
      rw [aArr, h2 502 (by decide), h2 504 (by decide), h2 506 (by decide), h2 508 (by decide), zrd_k _ (show i < 10 by omega) (by decide), zrd_k _ (show i < 10 by omega) (by decide), zrd_k _ (show i < 10 by omega) (by decide), zrd_k _ (show i < 10 by omega) (by decide), r1, r2, r3, r4]
    have et : L.take (i + 1) = L.take i ++ [(nI z, nI d, nI r, nI u)] := by
      rw [List.take_succ, hv1]
      rfl
    rw [e, et, mNl_sn, hl]
    obtain ⟨cv2, h3⟩ := eNew (F := mNl F n (L.take i)) h1 (by omega) hm2 (z := z) (d := d) (r := r) (u := u) (b := if nI u = 1 then 1 else 0) ⟨z1, d1, k1, u1⟩ (by
      rcases (show u = 0 ∨ u = 1 by omega) with rfl | rfl
      · exact Or.inl ⟨rfl, rfl⟩
      · exact Or.inr ⟨rfl, by decide⟩)
    exact ⟨⟨cv2, h3⟩, fun c hc => (qMkC_o _ _ _ _ _ hc).trans (h2 c hc)⟩
theorem k_arrive : eCall sX8_arrive sX9_arrive [.ref 495] [.ref 0] [xA, xU] := by
  intro Fc Fm h
  dsimp only [sX8_arrive, sX9_arrive]
  have h0 := h
  obtain ⟨⟨n, m, t, cv, hC⟩, hb, hu, ⟨l, l1, l2, l3, l4⟩, f1, f2⟩ := h
  have hS := hC.1
  obtain ⟨⟨hn, hm, hnm, ht⟩, ⟨s0, s1, s2, s3, s4, s5⟩, -⟩ := hS
  have hch : cAt Fm l = tCh (Fc 500) l := by
    funext p
    unfold cAt tCh
    by_cases hp : p < l
    · rw [if_pos hp, if_pos hp, l4 p hp]
    · rw [if_neg hp, if_neg hp]
  have hT0 : tT (zup (vw 498 Fc) 0 6 0) (Fc 500) l [] := by
    refine ⟨zup_ne _ _ _ (by decide), ?_, zup_at _ _ _ _, fun j v q => nomatch q⟩
    rw [zup_an _ _ _ (by decide)]
    exact l2
  have hX : xRead (vw 498 Fc) = tR l 0 (zup (vw 498 Fc) 0 6 0) 1 := by
    unfold xRead tR
    rw [show vw 498 Fc 0 5 = nI l from l2, nI_clamp (by omega)]
    rfl
  have hA := tAll l1 11 0 _ [] (by decide) (by decide) (Nat.zero_le _) hT0
  rw [← hch, ← hX, List.nil_append] at hA
  generalize hP : mAv (cAt Fm l) l 11 0 = P at hA
  generalize hY : xRead (vw 498 Fc) = Y at hA
  have hAr : aArR Fc = zup (zup (spl 498 11 Fc Y.2) 495 6 Y.1) 498 5 0 := by unfold aArR; rw [hY]
  have hc1 : ∀ c, c < 498 → c ≠ 495 → aArR Fc c = Fc c := fun c q1 q2 => by
    rw [hAr, zup_ne _ _ _ (by omega), zup_ne _ _ _ q2, spl_out _ _ _ _ (Or.inl q1)]
  have hc2 : ∀ i, i ≠ 6 → aArR Fc 495 i = Fc 495 i := fun i q => by
    rw [hAr, zup_ne _ _ _ (by decide), zup_an _ _ _ q, spl_out _ _ _ _ (Or.inl (by decide))]
  have hc3 : aArR Fc 498 5 = 0 := by rw [hAr, zup_at]
  have hc4 : aArR Fc 495 6 = Y.1 := by rw [hAr, zup_ne _ _ _ (by decide), zup_at]
  have hc5 : aArR Fc 498 6 = Y.2 0 6 := by
    rw [hAr, zup_an _ _ _ (by decide), zup_ne _ _ _ (by decide), show (498 : Nat) = 498 + 0 from rfl, spl_in 498 11 _ _ (by decide)]
  have hc6 : ∀ a, 1 ≤ a → a < 11 → aArR Fc (498 + a) = Y.2 a := fun a q1 q2 => by
    rw [hAr, zup_ne _ _ _ (by omega), zup_ne _ _ _ (by omega), spl_in 498 11 _ _ q2]
  by_cases hp : P.1 = true
  · obtain ⟨y1, y2, y3, y4⟩ := hA.2 hp
    have hrn : aArR Fc 498 6 = nI P.2.2.length := by rw [hc5]; exact y2.2.2.1
    have hr : aRS (aArR Fc) (aArR Fc 498 6) = if ¬ n + P.2.2.length ≤ 16 then 4 else if m < 2 then 5 else 0 := by
      unfold aRS
      rw [hc1 25 (by decide) (by decide), hc1 1 (by decide) (by decide), hrn, s4, s3, nI_add]
      by_cases h16 : n + P.2.2.length ≤ 16
      · rw [if_neg (show ¬ ¬ n + P.2.2.length ≤ 16 from fun q => q h16), if_pos (show nI (n + P.2.2.length) ≤ 16 from nI_le (b := 16) h16 (by decide))]
        by_cases hm2 : m < 2
        · rw [if_pos hm2, if_pos (show nI m < 2 from nI_lt (b := 2) hm2 (by decide))]
        · rw [if_neg hm2, if_neg (show ¬ nI m < 2 from nI_nlt (b := 2) (by omega) (by omega))]
      · rw [if_pos h16, if_neg (show ¬ nI (n + P.2.2.length) ≤ 16 from nI_ge (b := n + P.2.2.length) (a := 16) (by omega) (by omega))]
    have hr2 : Fm 1 1 < 2 ↔ m < 2 := by
      rw [s1]
      exact nI_ltI (b := 2) (by omega) (by decide)
    have hr16 : Fm 1 2 + nI P.2.2.length ≤ 16 ↔ n + P.2.2.length ≤ 16 := by
      rw [s2, nI_add]
      exact nI_leI (b := 16) (by omega) (by decide)
    have hcode : ∀ y, ∀ G, mAx Fm G (-1) y 2 → eBoth (zup (aArR Fc) 495 7 y) G := fun y G q => by
      obtain ⟨q1, q2, q3, q4, q5, q6⟩ := q
      refine eBoth_a h0 (a := -1) (b := y) (fun c e1 e2 => ?_) ?_ ?_ ?_ ?_ (fun c hc => q1 c (by omega) (by omega)) (q2 3 (by decide) (by decide) (by decide) (by decide) (by decide)) (q2 5 (by decide) (by decide) (by decide) (by decide) (by decide)) q3 q4 q5
      · rw [zup_ne _ _ _ e2]; exact hc1 c e1 e2
      · rw [zup_an _ _ _ (by decide)]; exact hc2 5 (by decide)
      · rw [zup_ne _ _ _ (by decide)]; exact hc3
      · rw [zup_an _ _ _ (by decide), hc4]; exact y1
      · rw [zup_at]
    refine ⟨fun _ => ?_, fun q => absurd y1 q⟩
    rw [hr]
    by_cases h16 : n + P.2.2.length ≤ 16
    · rw [if_neg (show ¬ ¬ n + P.2.2.length ≤ 16 from fun q => q h16)]
      by_cases hm2 : m < 2
      · rw [if_pos hm2]
        refine ⟨fun q => absurd q (by decide), fun _ => ⟨l, l1, l3, fun g => absurd (show true = false from hp.symm.trans (by rw [hP] at g; exact g)) (by decide), fun _ => ?_⟩⟩
        rw [hP]
        exact ⟨fun _ G g => ⟨⟨_, rfl⟩, ⟨g.2.2.2.2.2, by decide, by simp⟩, hcode 5 G g⟩, fun q => absurd (hr2.mpr hm2) q⟩
      · rw [if_neg hm2]
        refine ⟨fun _ => ?_, fun q => absurd rfl q⟩
        have hB : eBoth (aArR Fc) (zup (zup Fm 0 8 0) 0 10 (-1)) := by
          refine eBoth_a h0 (a := -1) (b := Fc 495 7) hc1 (hc2 5 (by decide)) hc3 (hc4.trans y1) (hc2 7 (by decide)) (fun c hc => ?_) ?_ ?_ ?_ ?_ ?_
          · rw [zup_ne _ _ _ (by omega), zup_ne _ _ _ (by omega)]
          · rw [zup_an _ _ _ (by decide), zup_an _ _ _ (by decide)]
          · rw [zup_an _ _ _ (by decide), zup_an _ _ _ (by decide)]
          · rw [zup_an _ _ _ (by decide), zup_at]
          · rw [zup_at]
          · rw [zup_an _ _ _ (by decide), zup_an _ _ _ (by decide)]; exact f2.symm
        have hFk : ∀ c, c ≠ 0 → mT (zup (zup Fm 0 8 0) 0 10 (-1)) c = Fm c := fun c q => by
          unfold mT
          rw [zup_ne _ _ _ q, zup_ne _ _ _ q, zup_ne _ _ _ q]
        have hF0 : ∀ i, i ≠ 0 → i ≠ 8 → i ≠ 10 → mT (zup (zup Fm 0 8 0) 0 10 (-1)) 0 i = Fm 0 i := fun i q0 q8 q10 => by
          unfold mT
          rw [zup_an _ _ _ q0, zup_an _ _ _ q10, zup_an _ _ _ q8]
        have hF8 : mT (zup (zup Fm 0 8 0) 0 10 (-1)) 0 8 = 0 := by
          unfold mT
          rw [zup_an _ _ _ (by decide), zup_an _ _ _ (by decide), zup_at]
        have hF10 : mT (zup (zup Fm 0 8 0) 0 10 (-1)) 0 10 = -1 := by
          unfold mT
          rw [zup_an _ _ _ (by decide), zup_at]
        obtain ⟨k, u, h1, h2, h3, h4, h5, h6, h7, h8, h9, h10, h11⟩ := eKept hB
        obtain ⟨k1, k2, k3, k4, k5⟩ := mKeep_c (F := Fm) (G := mT (zup (zup Fm 0 8 0) 0 10 (-1))) (hFk 1 (by decide)) (hFk 2 (by decide)) u
        have hC1 : eC (aArR Fc) (zup (zup Fm 0 8 0) 0 10 (-1) 1) n m t t 900 cv := by
          rw [zup_ne _ _ _ (by decide), zup_ne _ _ _ (by decide)]
          exact eC_q (eQ_44 (fun c hc => hc1 c (by omega) (by omega))) (eM_r _) hC
        have hC2 := h10 _ _ _ _ _ _ hC1
        have h3' : Fm 0 3 = nI u := by
          rw [zup_an _ _ _ (by decide), zup_an _ _ _ (by decide)] at h4
          exact h4
        refine ⟨k, h1, h2, _, rfl, l, l1, l3, fun g => absurd (show true = false from hp.symm.trans (by rw [hP] at g; exact g)) (by decide), fun _ => ?_⟩
        rw [hP, hrn]
        refine ⟨fun q => absurd (hr2.mp q) hm2, fun _ => ⟨fun q => absurd (hr16.mpr h16) q, fun _ => ⟨u, n, h3, h3', s2, h16, fun G g => ?_⟩⟩⟩
        obtain ⟨g1, g2, g3, g5, g00, g03, g05, g08, g010, g011⟩ := g
        refine ⟨rfl, g00, ?_⟩
        rw [nI_clamp (by omega)]
        generalize hZ : zcp (aKp (aArR Fc)) (135 + 45 * k) 0 = Z at hC2 h11 h9
        have hz : ∀ c, 498 ≤ c → Z c = aArR Fc c := fun c q => by
          rw [← hZ, zcp_out _ _ _ (by omega)]
          unfold aKp
          rw [zup_ne _ _ _ (by omega), zup_ne _ _ _ (by omega)]
        obtain ⟨⟨cv', e1⟩, e2⟩ := eArr hC2 P.2.2 h16 (by omega) y3 y4 (fun j v q => by
          rw [hz 502 (by decide), hz 504 (by decide), hz 506 (by decide), hz 508 (by decide), show (502 : Nat) = 498 + 4 from rfl, show (504 : Nat) = 498 + 6 from rfl, show (506 : Nat) = 498 + 8 from rfl, show (508 : Nat) = 498 + 10 from rfl, hc6 4 (by decide) (by decide), hc6 6 (by decide) (by decide), hc6 8 (by decide) (by decide), hc6 10 (by decide) (by decide)]
          exact y2.2.2.2 j v q) P.2.2.length (Nat.le_refl _)
        rw [List.take_length] at e1
        refine h11 (aArr Z P.2.2.length) G ⟨n + P.2.2.length, m, t, cv', ?_⟩ e2 ?_ ?_ ?_ (fun i hi => ?_)
        · rw [g1]
          rw [mNl_c1 (F := Fm) P.2.2 n (k2.trans rfl)] at e1
          exact e1
        · rw [g2, k1]
        · rw [g3, k5 3 (by decide) (by decide), hFk 3 (by decide)]
        · rw [g5, k5 5 (by decide) (by decide), hFk 5 (by decide)]
        · rcases hi with rfl | rfl | rfl | rfl | rfl
          · rw [g03, k3]
          · rw [g05, k4 5 (by decide), hF0 5 (by decide) (by decide) (by decide)]
          · rw [g08, k4 8 (by decide), hF8]
          · rw [g010, k4 10 (by decide), hF10]
          · rw [g011, k4 11 (by decide), hF0 11 (by decide) (by decide) (by decide)]
    · rw [if_pos h16]
      refine ⟨fun q => absurd q (by decide), fun _ => ⟨l, l1, l3, fun g => absurd (show true = false from hp.symm.trans (by rw [hP] at g; exact g)) (by decide), fun _ => ?_⟩⟩
      rw [hP]
      have hm2 : ¬ m < 2 := fun q => by
        rcases Nat.eq_zero_or_pos n with q0 | q0
        · omega
        · have := hnm q0
          omega
      exact ⟨fun q => absurd (hr2.mp q) hm2, fun _ => ⟨fun _ G g => ⟨⟨_, rfl⟩, ⟨g.2.2.2.2.2, by decide, by simp⟩, hcode 4 G g⟩, fun q => absurd (fun g => h16 (hr16.mp g)) q⟩⟩
  · have hp2 : P.1 = false := by
      cases hx : P.1 with
      | false => rfl
      | true => exact absurd hx hp
    obtain ⟨y1, y2⟩ := hA.1 hp2
    refine ⟨fun q => absurd (y1.symm.trans q) (nI_nm (by omega)), fun _ => ⟨l, l1, l3, fun _ G g => ?_, fun g => absurd (show false = true from hp2.symm.trans (by rw [hP] at g; exact g)) (by decide)⟩⟩
    rw [hP] at g
    obtain ⟨q1, q2, q3, q4, q5, q6⟩ := g
    exact ⟨⟨_, rfl⟩, ⟨q6, by decide, by simp⟩, eBoth_a h0 (a := nI P.2.1) (b := Fm 0 11) hc1 (hc2 5 (by decide)) hc3 (hc4.trans y1) ((hc2 7 (by decide)).trans f2) (fun c hc => q1 c (by omega) (by omega)) (q2 3 (by decide) (by decide) (by decide) (by decide) (by decide)) (q2 5 (by decide) (by decide) (by decide) (by decide) (by decide)) q3 q4 q5⟩
end ZEv
