/-! THE PURE PART: a ship is made -/
section ZEk
set_option maxRecDepth 20000
theorem eNew {G F : zF} {n m t B : Nat} {cv : Nat → List Nat} (hC : eC G (F 1) n m t t B cv) (hn16 : n < 16) (hm2 : 2 ≤ m) {z d r u : Nat} {b : Int32} (hz : (1 ≤ z ∧ z ≤ 9) ∧ (1 ≤ d ∧ d ≤ 99) ∧ r ≤ 3 ∧ u ≤ 1) (hb : (u = 0 ∧ b = 0) ∨ (u = 1 ∧ ¬ b = 0)) :
    ∃ cv', eC (qMkC G (nI z) (nI d) (nI r) b) (mNS F n (nI z) (nI d) (nI r) (nI u) 1) (n + 1) m t t B cv' := by
  obtain ⟨h1, h2, h3, h6, h7⟩ := hC
  obtain ⟨⟨hn, hm, hnm, ht⟩, ⟨s0, s1, s2, s3, s4, s5⟩, ⟨p4, p5, p6, p7, p8, p9, p10, p11⟩, k1, k2, k3⟩ := h1
  have hbu : (if b = 0 then (0 : Int32) else 1) = nI u := by
    rcases hb with ⟨q1, q2⟩ | ⟨q1, q2⟩
    · rw [if_pos q2, q1]; rfl
    · rw [if_neg q2, q1]; rfl
  have hbw : (if b = 0 then (0 : Int32) else G 8 9 - 1) = nI (u * (m - 2)) := by
    rcases hb with ⟨q1, q2⟩ | ⟨q1, q2⟩
    · rw [if_pos q2, q1, Nat.zero_mul]; rfl
    · rw [if_neg q2, q1, Nat.one_mul, s5, nI_m1 (by omega)]
      rfl
  have hum : u * (m - 2) + 1 < m ∧ (u = 0 → u * (m - 2) = 0) ∧ (u = 1 → u * (m - 2) = m - 2) := by
    rcases hb with ⟨q1, q2⟩ | ⟨q1, q2⟩
    · subst q1; omega
    · subst q1; omega
  have hH : qMkC G (nI z) (nI d) (nI r) b = zup (zup (zup (zup (zup (zup (zup (zup (zup (zup G 27 n (nI z)) 29 n (nI d)) 31 n (nI r)) 33 n (nI u)) 39 n (-1)) 41 n (nI n)) 43 n (-1)) 25 9 (nI (n + 1))) 35 n (nI (u * (m - 2)))) 37 n (nI t) := by
    unfold qMkC qMkS
    rw [hbu, hbw, s4, nI_1, p7, s0, zwr_k _ _ _ hn16 (by decide), zwr_k _ _ _ hn16 (by decide), zwr_k _ _ _ hn16 (by decide), zwr_k _ _ _ hn16 (by decide), zwr_k _ _ _ hn16 (by decide), zwr_k _ _ _ hn16 (by decide), zwr_k _ _ _ hn16 (by decide), zwr_k _ _ _ hn16 (by decide), zwr_k _ _ _ hn16 (by decide)]
  rw [hH]
  generalize hHe : zup (zup (zup (zup (zup (zup (zup (zup (zup (zup G 27 n (nI z)) 29 n (nI d)) 31 n (nI r)) 33 n (nI u)) 39 n (-1)) 41 n (nI n)) 43 n (-1)) 25 9 (nI (n + 1))) 35 n (nI (u * (m - 2)))) 37 n (nI t) = H
  have hc : ∀ c, c < 25 → H c = G c := fun c q => by
    rw [← hHe, zup_ne _ _ _ (by omega), zup_ne _ _ _ (by omega), zup_ne _ _ _ (by omega), zup_ne _ _ _ (by omega), zup_ne _ _ _ (by omega), zup_ne _ _ _ (by omega), zup_ne _ _ _ (by omega), zup_ne _ _ _ (by omega), zup_ne _ _ _ (by omega), zup_ne _ _ _ (by omega)]
  have hx : ∀ c x, c ≠ 25 → x ≠ n → H c x = G c x := fun c x q1 q2 => by
    rw [← hHe]
    simp [zup, q1, q2]
  have hv : H 25 9 = nI (n + 1) ∧ H 27 n = nI z ∧ H 29 n = nI d ∧ H 31 n = nI r ∧ H 33 n = nI u ∧ H 39 n = -1 ∧ H 41 n = nI n ∧ H 43 n = -1 ∧ H 35 n = nI (u * (m - 2)) ∧ H 37 n = nI t := by
    rw [← hHe]
    simp [zup]
  have hd4 : (if nI u = 1 then F 1 1 - 1 else (0 : Int32)) = nI (u * (m - 2) + u) := by
    rcases hb with ⟨q1, q2⟩ | ⟨q1, q2⟩
    · subst q1
      rw [if_neg (by decide), Nat.zero_mul]
      rfl
    · subst q1
      rw [if_pos (show nI 1 = 1 from rfl), s1, nI_m1 (by omega), Nat.one_mul]
      congr 1
      omega
  have hNo : ∀ x w, w < 9 → x ≠ n → mOf (mNS F n (nI z) (nI d) (nI r) (nI u)) x w = mOf F x w := fun x w hw q => by
    unfold mNS
    rw [mOf_zup _ _ _ _ (by decide) hw, mOf_zup _ _ _ _ (by decide) hw, mOf_zup _ _ _ _ (by decide) hw, mOf_zup _ _ _ _ (by decide) hw, mOf_zup _ _ _ _ (by decide) hw, mOf_zup _ _ _ _ (by decide) hw, mOf_zup _ _ _ _ (by decide) hw, mOf_zup _ _ _ _ (by decide) hw, mOf_zup _ _ _ _ (by decide) hw]
    simp only [q, false_and, if_false]
    unfold mOf
    exact zup_an _ _ _ (by omega)
  have hNn : mOf (mNS F n (nI z) (nI d) (nI r) (nI u)) n 0 = nI z ∧ mOf (mNS F n (nI z) (nI d) (nI r) (nI u)) n 1 = nI d ∧ mOf (mNS F n (nI z) (nI d) (nI r) (nI u)) n 2 = nI r ∧ mOf (mNS F n (nI z) (nI d) (nI r) (nI u)) n 3 = nI u ∧ mOf (mNS F n (nI z) (nI d) (nI r) (nI u)) n 4 = nI (u * (m - 2) + u) ∧ mOf (mNS F n (nI z) (nI d) (nI r) (nI u)) n 5 = nI t ∧ mOf (mNS F n (nI z) (nI d) (nI r) (nI u)) n 6 = nI n ∧ mOf (mNS F n (nI z) (nI d) (nI r) (nI u)) n 7 = 0 ∧ mOf (mNS F n (nI z) (nI d) (nI r) (nI u)) n 8 = -1 := by
    rw [← hd4, ← s0]
    unfold mNS
    refine ⟨?_, ?_, ?_, ?_, ?_, ?_, ?_, ?_, ?_⟩ <;>
    · rw [mOf_zup _ _ _ _ (by decide) (by decide), mOf_zup _ _ _ _ (by decide) (by decide), mOf_zup _ _ _ _ (by decide) (by decide), mOf_zup _ _ _ _ (by decide) (by decide), mOf_zup _ _ _ _ (by decide) (by decide), mOf_zup _ _ _ _ (by decide) (by decide), mOf_zup _ _ _ _ (by decide) (by decide), mOf_zup _ _ _ _ (by decide) (by decide), mOf_zup _ _ _ _ (by decide) (by decide)]
      simp
  have hNl : ∀ i, i < 53 → i ≠ 2 → mNS F n (nI z) (nI d) (nI r) (nI u) 1 i = F 1 i := fun i q1 q2 => by
    unfold mNS
    rw [zup_an _ _ _ (by omega), zup_an _ _ _ (by omega), zup_an _ _ _ (by omega), zup_an _ _ _ (by omega), zup_an _ _ _ (by omega), zup_an _ _ _ (by omega), zup_an _ _ _ (by omega), zup_an _ _ _ (by omega), zup_an _ _ _ (by omega), zup_an _ _ _ q2]
  have hN2 : mNS F n (nI z) (nI d) (nI r) (nI u) 1 2 = nI (n + 1) := by
    unfold mNS
    rw [zup_an _ _ _ (by omega), zup_an _ _ _ (by omega), zup_an _ _ _ (by omega), zup_an _ _ _ (by omega), zup_an _ _ _ (by omega), zup_an _ _ _ (by omega), zup_an _ _ _ (by omega), zup_an _ _ _ (by omega), zup_an _ _ _ (by omega), zup_at, nI_1]
  generalize mNS F n (nI z) (nI d) (nI r) (nI u) = N at hNo hNn hNl hN2 ⊢
  have hlt : ∀ a x, a < n → x ∈ cv a → x ≠ n := fun a x ha hx => by
    have := eCv_lt h7 ha hx
    omega
  refine ⟨fun h => if h = n then [n] else cv h, ?_, ⟨fun r hr => ?_, fun r q1 q2 => ?_⟩, ⟨fun k hk => ?_, fun k q1 q2 => ?_⟩, fun s hs => ?_, ⟨fun s hs => ?_, fun a ha => ?_⟩⟩
  · unfold eS
    rw [hN2, hNl 0 (by decide) (by decide), hNl 1 (by decide) (by decide), hNl 3 (by decide) (by decide), hNl 4 (by decide) (by decide), hNl 5 (by decide) (by decide), hNl 6 (by decide) (by decide), hNl 7 (by decide) (by decide), hNl 8 (by decide) (by decide), hNl 9 (by decide) (by decide), hc 0 (by decide), hc 1 (by decide), hc 8 (by decide), hv.1]
    exact ⟨⟨by omega, hm, fun _ => hm2, ht⟩, ⟨s0, s1, rfl, s3, rfl, s5⟩, ⟨p4, p5, p6, p7, p8, p9, p10, p11⟩, k1, k2, k3⟩
  · have q := h2.1 r hr
    unfold eRe1 eR at *
    rw [hNl (10 + 3 * r) (by omega) (by omega), hNl (10 + 3 * r + 1) (by omega) (by omega), hNl (10 + 3 * r + 2) (by omega) (by omega), hc 3 (by decide), hc 5 (by decide), hc 7 (by decide)]
    exact q
  · rw [hc 7 (by decide)]
    exact h2.2 r q1 q2
  · have q := h3.1 k hk
    unfold eLo1 eP at *
    rw [hc 10 (by decide), hc 12 (by decide), hc 14 (by decide), hc 16 (by decide), hc 18 (by decide), hc 20 (by decide), hc 22 (by decide), hc 24 (by decide), hNl (25 + 7 * k + 0) (by omega) (by omega), hNl (25 + 7 * k + 1) (by omega) (by omega), hNl (25 + 7 * k + 2) (by omega) (by omega), hNl (25 + 7 * k + 3) (by omega) (by omega), hNl (25 + 7 * k + 4) (by omega) (by omega), hNl (25 + 7 * k + 5) (by omega) (by omega), hNl (25 + 7 * k + 6) (by omega) (by omega)]
    exact q
  · rw [hc 18 (by decide), hc 20 (by decide), hc 22 (by decide), hc 24 (by decide)]
    exact h3.2 k q1 q2
  · by_cases hsn : s = n
    · subst hsn
      obtain ⟨g1, g2, g3, g4, g5, g6, g7, g8, g9, g10⟩ := hv
      obtain ⟨f0, f1, f2, f3, f4, f5, f6, f7, f8⟩ := hNn
      exact ⟨⟨g2.trans f0.symm, g3.trans f1.symm, g4.trans f2.symm, g5.trans f3.symm, g6.trans f8.symm⟩, z, d, r, u, ⟨hz.1.1, hz.1.2, hz.2.1.1, hz.2.1.2, hz.2.2.1, hz.2.2.2⟩, ⟨f0, f1, f2, f3⟩, Or.inr ⟨u * (m - 2), t, hum.1, g9, f4, g10.trans f5.symm, Nat.le_refl _, f5⟩⟩
    · have q := h6 s (by omega)
      have e : ∀ w, w < 9 → eO (N 1) s w = eO (F 1) s w := fun w hw => hNo s w hw hsn
      unfold eSh1 at *
      rw [e 0 (by decide), e 1 (by decide), e 2 (by decide), e 3 (by decide), e 4 (by decide), e 5 (by decide), e 8 (by decide), hx 27 s (by decide) hsn, hx 29 s (by decide) hsn, hx 31 s (by decide) hsn, hx 33 s (by decide) hsn, hx 35 s (by decide) hsn, hx 37 s (by decide) hsn, hx 39 s (by decide) hsn]
      exact q
  · by_cases hsn : s = n
    · exact ⟨n, by omega, by dsimp only; rw [if_pos rfl, hsn]; exact List.mem_cons_self⟩
    · obtain ⟨a, ha, hsa⟩ := h7.1 s (by omega)
      exact ⟨a, by omega, by dsimp only; rw [if_neg (by omega)]; exact hsa⟩
  · dsimp only
    by_cases han : a = n
    · subst han
      rw [if_pos rfl]
      refine ⟨⟨⟨hn16, hv.2.2.2.2.2.2.2.1, True.intro⟩, List.nodup_cons.mpr ⟨List.not_mem_nil, List.nodup_nil⟩⟩, Or.inr rfl, fun i x hi => ?_, fun x hx2 => ?_, fun _ => Nat.le_refl _⟩
      · cases i with
        | zero =>
          cases hi
          exact ⟨by omega, hNn.2.2.2.2.2.2.1, hNn.2.2.2.2.2.2.2.1⟩
        | succ i => exact nomatch hi
      · have hxb := List.mem_singleton.mp hx2
        subst hxb
        exact ⟨hv.2.2.2.2.2.2.1, rfl, rfl⟩
    · rw [if_neg han]
      have q := h7.2 a (by omega)
      have q2 := eCv1_same (H := H) (N := N 1) q (fun x hx2 => by
        have hxn := hlt a x (by omega) hx2
        exact ⟨hx 43 x (by decide) hxn, hx 41 x (by decide) hxn, hx 35 x (by decide) hxn, hNo x 6 (by decide) hxn, hNo x 7 (by decide) hxn, hNo x 3 (by decide) hxn⟩)
      obtain ⟨q3, q4, q5, q6, q7⟩ := q2
      exact ⟨q3, q4, fun i x hi => ⟨by have := (q5 i x hi).1; omega, (q5 i x hi).2⟩, q6, q7⟩
theorem eBoth_y {Fc Fm Gm : zF} (h : eBoth Fc Fm) (y : Int32) (hc : ∀ c, c ≠ 0 → Gm c = Fm c) (h0 : ∀ i, i = 3 ∨ i = 5 ∨ i = 8 ∨ i = 10 → Gm 0 i = Fm 0 i) (h11 : Gm 0 11 = y) : eBoth (zup Fc 495 7 y) Gm := by
  obtain ⟨g1, g2, g3, g4, g5, g6⟩ := h
  have hv : ∀ b k, b + k ≠ 495 → vw b (zup Fc 495 7 y) k = vw b Fc k := fun b k q => zup_ne _ _ _ q
  refine ⟨?_, ?_, ?_, ?_, ?_, ?_⟩
  · rw [hc 1 (by decide)]
    exact eCan_q (eQ_44 (fun c hc => zup_ne _ _ _ (by omega))) (eM_r _) g1
  · rw [zup_an _ _ _ (by decide), h0 5 (by simp), hc 3 (by decide)]
    obtain ⟨b, b1, b2, b3, b4⟩ := g2
    exact ⟨b, b1, b2, b3, fun q => eCan_q (eQ_44 (fun c hc => hv 90 c (by omega))) (eM_r _) (b4 q)⟩
  · rw [zup_ne _ _ _ (show 496 ≠ 495 by decide), h0 3 (by simp), hc 2 (by decide)]
    obtain ⟨u, w, b1, b2, b3, b4, b5, b6⟩ := g3
    exact ⟨u, w, b1, b2, b3, b4, b5, fun j hj => eCan_q (eQ_44 (fun c hc => hv _ c (by omega))) (eM_r _) (b6 j hj)⟩
  · rw [zup_ne _ _ _ (show 498 ≠ 495 by decide), zup_ne _ _ _ (show 500 ≠ 495 by decide), h0 8 (by simp), hc 5 (by decide)]
    exact g4
  · rw [zup_an _ _ _ (by decide), h0 10 (by simp)]
    exact g5
  · rw [zup_at, h11]
theorem eBoth_r {Fc Fm : zF} (h : eBoth Fc Fm) (y c : Int32) : eBoth (zup Fc 495 7 y) (zup (zup (mT Fm) 0 11 y) 0 0 c) := by
  refine eBoth_y h y (fun a q => ?_) (fun i q => ?_) ?_
  · unfold mT
    rw [zup_ne _ _ _ q, zup_ne _ _ _ q, zup_ne _ _ _ q]
  · unfold mT
    rw [zup_an _ _ _ (by omega), zup_an _ _ _ (by omega), zup_an _ _ _ (by omega)]
  · rw [zup_an _ _ _ (by decide), zup_at]
theorem k_addShip (a b c d : Int32) : eCall sX8_addShip sX9_addShip [.ref 495, .int a, .int b, .int c, .int d] [.ref 0, .int a, .int b, .int c, .int d] [xA, xU] := by
  intro Fc Fm h
  dsimp only [sX8_addShip, sX9_addShip]
  obtain ⟨n, m, t, cv, hC⟩ := h.1
  have hS := hC.1
  obtain ⟨⟨hn, hm, hnm, ht⟩, ⟨s0, s1, s2, s3, s4, s5⟩, -⟩ := hS
  have hr : aRS Fc 1 = if n = 16 then 4 else if m < 2 then 5 else 0 := by
    unfold aRS
    rw [s4, nI_1, s3]
    by_cases h16 : n = 16
    · rw [if_pos h16, if_neg (show ¬ nI (n + 1) ≤ 16 from nI_ge (b := n + 1) (a := 16) (by omega) (by omega))]
    · rw [if_neg h16, if_pos (show nI (n + 1) ≤ 16 from nI_le (b := 16) (by omega) (by decide))]
      by_cases hm2 : m < 2
      · rw [if_pos hm2, if_pos (show nI m < 2 from nI_lt (b := 2) hm2 (by decide))]
      · rw [if_neg hm2, if_neg (show ¬ nI m < 2 from nI_nlt (b := 2) (by omega) (by omega))]
  have hr16 : Fm 1 2 = 16 ↔ n = 16 := by
    rw [s2]
    exact nI_eq (b := 16) (by omega) (by decide)
  have hr2 : Fm 1 1 < 2 ↔ m < 2 := by
    rw [s1]
    exact nI_ltI (b := 2) (by omega) (by decide)
  have hcode := fun y => eBoth_r h y 2
  rw [hr]
  refine ⟨fun c1 => ?_, fun c1 => ⟨fun q => absurd q c1, fun _ => ⟨⟨_, rfl⟩, ⟨by rw [zup_at]; decide, by decide, by simp⟩, eBoth_t (eBoth_t h 0) 1⟩⟩⟩
  by_cases h16 : n = 16
  · rw [if_pos h16]
    refine ⟨fun q => absurd q (by decide), fun _ => ⟨fun _ => ⟨fun _ => ⟨⟨_, rfl⟩, ⟨by rw [zup_at]; decide, by decide, by simp⟩, hcode 4⟩, fun q => absurd (hr16.mpr h16) q⟩, fun q => absurd c1 q⟩⟩
  · rw [if_neg h16]
    by_cases hm2 : m < 2
    · rw [if_pos hm2]
      refine ⟨fun q => absurd q (by decide), fun _ => ⟨fun _ => ⟨fun q => absurd (hr16.mp q) h16, fun _ => ⟨fun _ => ⟨⟨_, rfl⟩, ⟨by rw [zup_at]; decide, by decide, by simp⟩, hcode 5⟩, fun q => absurd (hr2.mpr hm2) q⟩⟩, fun q => absurd c1 q⟩⟩
    · rw [if_neg hm2]
      refine ⟨fun _ => ?_, fun q => absurd rfl q⟩
      obtain ⟨k, u, h1, h2, h3, h4, h5, h6, h7, h8, h9, h10, h11⟩ := eKept h
      have hC2 := h10 _ _ _ _ _ _ hC
      obtain ⟨z, z1, z2, rfl⟩ := eNat4 (a := 1) (n := 9) c1.1.1 c1.1.2 (by decide) (by decide)
      obtain ⟨dr, d1, d2, rfl⟩ := eNat4 (a := 1) (n := 99) c1.2.1.1 c1.2.1.2 (by decide) (by decide)
      obtain ⟨rk, r1, r2, rfl⟩ := eNat4 (a := 0) (n := 3) c1.2.2.1 c1.2.2.2 (by decide) (by decide)
      have hG25 : zcp (aKp Fc) (135 + 45 * k) 0 25 9 = nI n := by rw [h9 25 (by decide)]; exact s4
      obtain ⟨up, hup, hd⟩ : ∃ up, ((up = 0 ∧ d = 0) ∨ (up = 1 ∧ ¬ d = 0)) ∧ (if d = 0 then (0 : Int32) else 1) = nI up := by
        by_cases hd : d = 0
        · exact ⟨0, Or.inl ⟨rfl, hd⟩, if_pos hd⟩
        · exact ⟨1, Or.inr ⟨rfl, hd⟩, if_neg hd⟩
      obtain ⟨cv', r⟩ := eNew (F := mKeep (mT Fm) u) hC2 (by omega) (by omega) (z := z) (d := dr) (r := rk) ⟨⟨z1, z2⟩, ⟨d1, d2⟩, r2, by omega⟩ hup
      refine ⟨k, h1, h2, _, rfl, ?_⟩
      rw [hG25]
      refine ⟨fun _ => ⟨fun q => absurd (hr16.mp q) h16, fun _ => ⟨fun q => absurd (hr2.mp q) hm2, fun _ => ⟨u, n, h3, h4, by omega, ?_, rfl, ?_, ?_⟩⟩⟩, fun q => absurd c1 q⟩
      · rw [h5]; exact s2
      · rw [hd]
        unfold mNS
        rw [zup_ne _ _ _ (by decide), zup_ne _ _ _ (by decide), zup_ne _ _ _ (by decide), zup_ne _ _ _ (by decide), zup_ne _ _ _ (by decide), zup_ne _ _ _ (by decide), zup_ne _ _ _ (by decide), zup_ne _ _ _ (by decide), zup_ne _ _ _ (by decide), zup_ne _ _ _ (by decide)]
        exact h6
      · rw [hd]
        have hne : ∀ c, c ≠ 1 → mNS (mKeep (mT Fm) u) n (nI z) (nI dr) (nI rk) (nI up) c = mKeep (mT Fm) u c := fun c q => by
          unfold mNS
          rw [zup_ne _ _ _ q, zup_ne _ _ _ q, zup_ne _ _ _ q, zup_ne _ _ _ q, zup_ne _ _ _ q, zup_ne _ _ _ q, zup_ne _ _ _ q, zup_ne _ _ _ q, zup_ne _ _ _ q, zup_ne _ _ _ q]
        exact h11 _ _ ⟨n + 1, m, t, cv', r⟩ (fun c hc => qMkC_o _ _ _ _ _ hc) (hne 2 (by decide)) (hne 3 (by decide)) (hne 5 (by decide)) (fun i _ => by rw [hne 0 (by decide)])
end ZEk
