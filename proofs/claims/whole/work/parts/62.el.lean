/-! THE PURE PART: convoys are joined -/
section ZEl
set_option maxRecDepth 20000
theorem eLow_o {G H : zF} {M N : Nat → Int32} {n m t B : Nat} (hm : m ≤ 5) (hc : ∀ c, c < 26 → H c = G c) (hM : ∀ i, i < 53 → N i = M i) (h1 : eS G M n m t) (h2 : eRe G M m B) (h3 : eLo G M m) : eS H N n m t ∧ eRe H N m B ∧ eLo H N m := by
  refine ⟨?_, ⟨fun r hr => ?_, fun r q1 q2 => ?_⟩, ⟨fun k hk => ?_, fun k q1 q2 => ?_⟩⟩
  · unfold eS at *
    rw [hM 0 (by decide), hM 1 (by decide), hM 2 (by decide), hM 3 (by decide), hM 4 (by decide), hM 5 (by decide), hM 6 (by decide), hM 7 (by decide), hM 8 (by decide), hM 9 (by decide), hc 0 (by decide), hc 1 (by decide), hc 8 (by decide), hc 25 (by decide)]
    exact h1
  · have q := h2.1 r hr
    unfold eRe1 eR at *
    rw [hM (10 + 3 * r) (by omega), hM (10 + 3 * r + 1) (by omega), hM (10 + 3 * r + 2) (by omega), hc 3 (by decide), hc 5 (by decide), hc 7 (by decide)]
    exact q
  · rw [hc 7 (by decide)]
    exact h2.2 r q1 q2
  · have q := h3.1 k hk
    unfold eLo1 eP at *
    rw [hc 10 (by decide), hc 12 (by decide), hc 14 (by decide), hc 16 (by decide), hc 18 (by decide), hc 20 (by decide), hc 22 (by decide), hc 24 (by decide), hM (25 + 7 * k + 0) (by omega), hM (25 + 7 * k + 1) (by omega), hM (25 + 7 * k + 2) (by omega), hM (25 + 7 * k + 3) (by omega), hM (25 + 7 * k + 4) (by omega), hM (25 + 7 * k + 5) (by omega), hM (25 + 7 * k + 6) (by omega)]
    exact q
  · rw [hc 18 (by decide), hc 20 (by decide), hc 22 (by decide), hc 24 (by decide)]
    exact h3.2 k q1 q2
theorem eSh_p {G H : zF} {M N : Nat → Int32} {n m T : Nat} (hG : ∀ c, c = 27 ∨ c = 29 ∨ c = 31 ∨ c = 33 ∨ c = 35 ∨ c = 37 ∨ c = 39 → H c = G c) (hM : ∀ s w, s < n → w < 9 → w ≠ 6 → w ≠ 7 → eO N s w = eO M s w) (h : eSh G M n m T) : eSh H N n m T := by
  intro s hs
  have h1 := h s hs
  unfold eSh1 at *
  rw [hG 27 (by simp), hG 29 (by simp), hG 31 (by simp), hG 33 (by simp), hG 35 (by simp), hG 37 (by simp), hG 39 (by simp), hM s 0 hs (by decide) (by decide) (by decide), hM s 1 hs (by decide) (by decide) (by decide), hM s 2 hs (by decide) (by decide) (by decide), hM s 3 hs (by decide) (by decide) (by decide), hM s 4 hs (by decide) (by decide) (by decide), hM s 5 hs (by decide) (by decide) (by decide), hM s 8 hs (by decide) (by decide) (by decide)]
  exact h1
theorem eLeft {G F : zF} {n m T s : Nat} (h : eSh G (F 1) n m T) (hm : m ≤ 5) (hs : s < n) : (G 35 s = -1 ↔ mOf F s 4 < 0) ∧ ((G 35 s = -1 ∧ mOf F s 4 = -1) ∨ ∃ k, k + 1 < m ∧ G 35 s = nI k) := by
  obtain ⟨-, z, d, r, u, g1, g2, g3⟩ := h s hs
  rcases g3 with ⟨g3, g4⟩ | ⟨k, x, r1, r2, r3, r4⟩
  · have g3 : mOf F s 4 = -1 := g3
    refine ⟨?_, Or.inl ⟨g4, g3⟩⟩
    rw [g3, g4]
    decide
  · have r3 : mOf F s 4 = nI (k + u) := r3
    refine ⟨⟨fun q => absurd (r2.symm.trans q) (nI_nm (by omega)), fun q => ?_⟩, Or.inr ⟨k, r1, r2⟩⟩
    rw [r3] at q
    exact absurd q (nI_pos (by omega))
theorem eShp {s : Int32} {n : Nat} (hn : n ≤ 16) : (0 ≤ s ∧ s ≤ nI n - 1) ↔ (0 ≤ s ∧ s < nI n) := by
  have h1 : (nI n - 1).toInt = (n : Int) - 1 := eSub_i (x := n) (y := 1) (by omega) (by decide)
  rw [Int32.le_iff_toInt_le, Int32.le_iff_toInt_le, Int32.lt_iff_toInt_lt, h1, nI_toInt (by omega)]
  omega
theorem eChn_app {G H : zF} : ∀ (A B : List Nat), eChn G A → A.Nodup → A ≠ [] → eChn H B → H 43 (A.getD (A.length - 1) 0) = eHd B → (∀ x, x ∈ A → x ≠ A.getD (A.length - 1) 0 → H 43 x = G 43 x) → eChn H (A ++ B)
  | [], _, _, _, h, _, _, _ => absurd rfl h
  | [x], B, h1, _, _, h2, h3, _ => ⟨h1.1, h3, h2⟩
  | x :: y :: t, B, h1, hd, _, h2, h3, h4 => by
    have hd := List.nodup_cons.mp hd
    have e : (x :: y :: t).getD ((x :: y :: t).length - 1) 0 = (y :: t).getD ((y :: t).length - 1) 0 := by simp
    rw [e] at h3 h4
    have hm : (y :: t).getD ((y :: t).length - 1) 0 ∈ y :: t := by
      rw [List.getD_eq_getElem?_getD, List.getElem?_eq_getElem (show (y :: t).length - 1 < (y :: t).length by simp)]
      exact List.getElem_mem _
    refine ⟨h1.1, ?_, eChn_app (y :: t) B h1.2.2 hd.2 (by simp) h2 h3 (fun z hz hne => h4 z (List.mem_cons_of_mem _ hz) hne)⟩
    rw [h4 x List.mem_cons_self (fun q => hd.1 (by rw [q]; exact hm))]
    exact h1.2.1
theorem mJn_r (F : zF) (b h z : Int32) (hbh : ¬ h = b) : ∀ k x w, w < 9 → mOf (mJn F b h z k) x w = if (x < k ∧ mOf F x 6 = b) ∧ w = 6 then h else if (x < k ∧ mOf F x 6 = b) ∧ w = 7 then z + mOf F x 7 else mOf F x w
  | 0, x, w, _ => by
    rw [if_neg (fun q => absurd q.1.1 (Nat.not_lt_zero x)), if_neg (fun q => absurd q.1.1 (Nat.not_lt_zero x))]
    rfl
  | k + 1, x, w, hw => by
    have ih := mJn_r F b h z hbh k
    have h6 : mOf (mJn F b h z k) k 6 = mOf F k 6 := by rw [ih k 6 (by decide), if_neg (fun q => absurd q.1.1 (Nat.lt_irrefl k)), if_neg (fun q => absurd q.1.1 (Nat.lt_irrefl k))]
    have h7 : mOf (mJn F b h z k) k 7 = mOf F k 7 := by rw [ih k 7 (by decide), if_neg (fun q => absurd q.1.1 (Nat.lt_irrefl k)), if_neg (fun q => absurd q.1.1 (Nat.lt_irrefl k))]
    unfold mJn
    rw [h6]
    by_cases hb : mOf F k 6 = b
    · have e7 : mOf (zup (mJn F b h z k) 1 (53 + 9 * k + 6) h) k 7 = mOf F k 7 := by
        rw [mOf_zup _ _ _ _ (by decide) (by decide), if_neg (fun q => absurd q.2 (by decide)), h7]
      rw [if_pos hb, e7, mOf_zup _ _ _ _ (by decide) hw, mOf_zup _ _ _ _ (by decide) hw, ih x w hw]
      by_cases hx : x = k
      · subst hx
        by_cases w7 : w = 7
        · subst w7
          rw [if_pos ⟨rfl, rfl⟩, if_neg (fun q => absurd q.2 (by decide)), if_pos ⟨⟨by omega, hb⟩, rfl⟩]
        · rw [if_neg (fun q => w7 q.2)]
          by_cases w6 : w = 6
          · rw [if_pos ⟨rfl, w6⟩, if_pos ⟨⟨by omega, hb⟩, w6⟩]
          · rw [if_neg (fun q => w6 q.2), if_neg (fun q => w6 q.2), if_neg (fun q => w7 q.2), if_neg (fun q => w6 q.2), if_neg (fun q => w7 q.2)]
      · rw [if_neg (fun q => hx q.1), if_neg (fun q => hx q.1)]
        have e : (x < k + 1) ↔ x < k := by omega
        simp only [e]
    · rw [if_neg hb, ih x w hw]
      by_cases hx : x = k
      · subst hx
        rw [if_neg (fun q => absurd q.1.1 (Nat.lt_irrefl x)), if_neg (fun q => absurd q.1.1 (Nat.lt_irrefl x)), if_neg (fun q => hb q.1.2), if_neg (fun q => hb q.1.2)]
      · have e : (x < k + 1) ↔ x < k := by omega
        simp only [e]
theorem mJn_x (F : zF) (b h z : Int32) : ∀ k, (∀ i, i < 53 → mJn F b h z k 1 i = F 1 i) ∧ ∀ c, c ≠ 1 → mJn F b h z k c = F c
  | 0 => ⟨fun _ _ => rfl, fun _ _ => rfl⟩
  | k + 1 => by
    obtain ⟨i1, i2⟩ := mJn_x F b h z k
    unfold mJn
    split
    · exact ⟨fun i hi => by rw [zup_an _ _ _ (by omega), zup_an _ _ _ (by omega), i1 i hi], fun c hc => by rw [zup_ne _ _ _ hc, zup_ne _ _ _ hc, i2 c hc]⟩
    · exact ⟨i1, i2⟩
theorem eJoin {G F : zF} {n m t B : Nat} {cv : Nat → List Nat} (hC : eC G (F 1) n m t t B cv) {i j a b : Nat} (hi : i < n) (hj : j < n) (ha : a < n) (hb : b < n) (hib : i ∈ cv b) (hja : j ∈ cv a) (hab : a ≠ b) (h35 : G 35 i = G 35 j) (hnl : ¬ G 35 i = -1) (h3 : mOf F i 3 = mOf F j 3) :
    ∃ cv', eC (qJn G (qFi G (nI j)) (qFi G (nI i))) (mJo F i j n 1) n m t t B cv' ∧ j ∈ cv' a ∧ mOf F j 6 = nI a ∧ (∀ c, 45 ≤ c → qJn G (qFi G (nI j)) (qFi G (nI i)) c = G c) ∧ (∀ c, c ≠ 1 → mJo F i j n c = F c) ∧ mOf (mJo F i j n) j 6 = nI a := by
  obtain ⟨h1, h2, h3', h6, h7⟩ := hC
  have hn := h1.1.1
  have hm := h1.1.2.1
  obtain ⟨a', ha', qa1, qa2, qa3, qa4, qa5, qa6, qa7⟩ := eCv_of hn h7 hj
  have := eCv_uniq hn h7 ha' ha qa1 hja
  subst this
  obtain ⟨b', hb', qb1, qb2, qb3, qb4, qb5, qb6, qb7⟩ := eCv_of hn h7 hi
  have := eCv_uniq hn h7 hb' hb qb1 hib
  subst this
  obtain ⟨⟨c1, c2⟩, c3, c4, c5, c6⟩ := h7.2 a' ha
  obtain ⟨⟨d1, d2⟩, d3, d4, d5, d6⟩ := h7.2 b' hb
  have hla := eCv_len hn h7 ha
  have hlb := eCv_len hn h7 hb
  have haa : a' ∈ cv a' := List.mem_of_mem_head? qa4
  have hbb : b' ∈ cv b' := List.mem_of_mem_head? qb4
  have hl1 : 1 ≤ (cv a').length := List.length_pos_of_mem haa
  have hga : qFi G (nI a') = nI a' := (zrd_k _ (by omega) (by decide)).trans (c5 a' haa).1
  have hdis : ∀ x, x ∈ cv a' → ¬ x ∈ cv b' := fun x q1 q2 => hab (eCv_uniq hn h7 ha hb q1 q2)
  have hy : (cv a').getD ((cv a').length - 1) 0 ∈ cv a' := by
    rw [List.getD_eq_getElem?_getD, List.getElem?_eq_getElem (show (cv a').length - 1 < (cv a').length by omega)]
    exact List.getElem_mem _
  have hH : qJn G (qFi G (nI j)) (qFi G (nI i)) = eSt 41 (nI a') (cv b') (zup G 43 ((cv a').getD ((cv a').length - 1) 0) (nI b')) := by
    unfold qJn
    have hd : eHd ((cv a').drop ((cv a').length - 1)) = nI ((cv a').getD ((cv a').length - 1) 0) := eHd_d1 hl1 (Nat.le_refl _)
    rw [qa2, qb2, (eSIC hn h7 ha ha haa).1, nI_m1 hl1, eSOC hn h7 ha qa5 hga (by omega), hd, zwr_k _ _ _ (eChn_16 _ c1 _ hy) (by decide)]
    rw [← qb5]
    refine eNm _ 16 _ _ (eChn_c _ (fun x hx => zup_an _ _ _ (fun q => hdis _ hy (by rw [← q]; exact hx))) d1) hlb
  have hN : ∀ x w, x < n → w < 9 → mOf (mJo F i j n) x w = if x ∈ cv b' ∧ w = 6 then nI a' else if x ∈ cv b' ∧ w = 7 then nI (cv a').length + mOf F x 7 else mOf F x w := fun x w hx hw => by
    have hmb := (eCv_m hn h7 hb).2.1 x hx
    unfold mJo
    rw [qa3, qb3, mCv_sz (eCv_m hn h7 ha), mJn_r _ _ _ _ (fun q => hab ((nI_eq (by omega) (by omega)).mp q)) n x w hw]
    have e1 : (x < n ∧ mOf F x 6 = nI b') ↔ x ∈ cv b' := ⟨fun q => hmb.mp q.2, fun q => ⟨hx, hmb.mpr q⟩⟩
    simp only [e1]
  have hlo := mJn_x F (mOf F i 6) (mOf F j 6) (nI (mSz F (mOf F j 6) n)) n
  have hNo : ∀ x w, x < n → w < 9 → w ≠ 6 → w ≠ 7 → eO (mJo F i j n 1) x w = eO (F 1) x w := fun x w hx hw q6 q7 => by
    have := hN x w hx hw
    rw [if_neg (fun q => q6 q.2), if_neg (fun q => q7 q.2)] at this
    exact this
  have hNx : ∀ x w, x < n → w < 9 → ¬ x ∈ cv b' → eO (mJo F i j n 1) x w = eO (F 1) x w := fun x w hx hw q => by
    have := hN x w hx hw
    rw [if_neg (fun z => q z.1), if_neg (fun z => q z.1)] at this
    exact this
  rw [hH]
  have hHc : ∀ c, c ≠ 41 → c ≠ 43 → eSt 41 (nI a') (cv b') (zup G 43 ((cv a').getD ((cv a').length - 1) 0) (nI b')) c = G c := fun c q1 q2 => by rw [eSt_ne _ _ _ _ q1, zup_ne _ _ _ q2]
  have h41i : ∀ x, x ∈ cv b' → eSt 41 (nI a') (cv b') (zup G 43 ((cv a').getD ((cv a').length - 1) 0) (nI b')) 41 x = nI a' := fun x q => eSt_in _ _ _ _ q
  have h41o : ∀ x, ¬ x ∈ cv b' → eSt 41 (nI a') (cv b') (zup G 43 ((cv a').getD ((cv a').length - 1) 0) (nI b')) 41 x = G 41 x := fun x q => by rw [eSt_out _ _ _ _ q, zup_ne _ _ _ (by decide)]
  have h43y : eSt 41 (nI a') (cv b') (zup G 43 ((cv a').getD ((cv a').length - 1) 0) (nI b')) 43 ((cv a').getD ((cv a').length - 1) 0) = nI b' := by rw [eSt_ne _ _ _ _ (by decide), zup_at]
  have h43o : ∀ x, x ≠ (cv a').getD ((cv a').length - 1) 0 → eSt 41 (nI a') (cv b') (zup G 43 ((cv a').getD ((cv a').length - 1) 0) (nI b')) 43 x = G 43 x := fun x q => by rw [eSt_ne _ _ _ _ (by decide), zup_an _ _ _ q]
  generalize eSt 41 (nI a') (cv b') (zup G 43 ((cv a').getD ((cv a').length - 1) 0) (nI b')) = H at hHc h41i h41o h43y h43o ⊢
  have hl := eLow_o (H := H) (N := mJo F i j n 1) hm (fun c hc => hHc c (by omega) (by omega)) hlo.1 h1 h2 h3'
  refine ⟨fun h => if h = a' then cv a' ++ cv b' else if h = b' then [] else cv h, ⟨hl.1, hl.2.1, hl.2.2, eSh_p (fun c hc => hHc c (by omega) (by omega)) hNo h6, fun s hs => ?_, fun h hh => ?_⟩, ?_, qa3, fun c hc => hHc c (by omega) (by omega), hlo.2, ?_⟩
  · obtain ⟨h, hh, hsh⟩ := h7.1 s hs
    dsimp only
    by_cases q1 : h = a'
    · exact ⟨a', ha, by rw [if_pos rfl]; exact List.mem_append.mpr (Or.inl (by rw [← q1]; exact hsh))⟩
    · by_cases q2 : h = b'
      · exact ⟨a', ha, by rw [if_pos rfl]; exact List.mem_append.mpr (Or.inr (by rw [← q2]; exact hsh))⟩
      · exact ⟨h, hh, by rw [if_neg q1, if_neg q2]; exact hsh⟩
  · dsimp only
    by_cases q1 : h = a'
    · subst q1
      rw [if_pos rfl]
      refine ⟨⟨eChn_app _ _ c1 c2 (fun q => by rw [q] at haa; exact nomatch haa) (eChn_c _ (fun x hx => h43o x (fun q => hdis _ hy (by rw [← q]; exact hx))) d1) (h43y.trans qb5.symm) (fun x _ hne => h43o x hne), List.nodup_append.mpr ⟨c2, d2, fun x q1 y q2 q3 => hdis x q1 (by rw [q3]; exact q2)⟩⟩, Or.inr ?_, fun p x hp => ?_, fun x hx => ?_, fun q => ?_⟩
      · rw [List.head?_append, qa4]
        rfl
      · by_cases hpa : p < (cv h).length
        · rw [List.getElem?_append_left hpa] at hp
          have q := c4 p x hp
          have q2 := hdis x (List.mem_of_getElem? hp)
          rw [hNx x 6 q.1 (by decide) q2, hNx x 7 q.1 (by decide) q2]
          exact q
        · rw [List.getElem?_append_right (by omega)] at hp
          have q := d4 _ x hp
          have q2 := List.mem_of_getElem? hp
          have e6 := hN x 6 q.1 (by decide)
          rw [if_pos ⟨q2, rfl⟩] at e6
          have e7 := hN x 7 q.1 (by decide)
          rw [if_neg (fun z => absurd z.2 (by decide)), if_pos ⟨q2, rfl⟩, show mOf F x 7 = nI (p - (cv h).length) from q.2.2, nI_add, show (cv h).length + (p - (cv h).length) = p by omega] at e7
          exact ⟨q.1, e6, e7⟩
      · rw [hHc 35 (by decide) (by decide), hNo h 3 ha (by decide) (by decide) (by decide)]
        rcases List.mem_append.mp hx with q | q
        · have q2 := eCv_lt h7 ha q
          rw [h41o x (hdis x q), hNo x 3 q2 (by decide) (by decide) (by decide)]
          exact c5 x q
        · have q2 := eCv_lt h7 hb q
          have q3 := d5 x q
          rw [h41i x q, hNo x 3 q2 (by decide) (by decide) (by decide), q3.2.1, q3.2.2, ← qb6, ← qa6, h35]
          refine ⟨rfl, rfl, ?_⟩
          have : mOf F b' 3 = mOf F h 3 := by rw [← qb7, ← qa7, h3]
          exact this
      · rw [hHc 35 (by decide) (by decide), ← qa6, ← h35] at q
        exact absurd q hnl
    · rw [if_neg q1]
      by_cases q2 : h = b'
      · subst q2
        rw [if_pos rfl]
        exact ⟨⟨True.intro, List.nodup_nil⟩, Or.inl rfl, fun p x hp => (nomatch hp), fun x hx => (nomatch hx), fun _ => Nat.zero_le _⟩
      · rw [if_neg q2]
        refine eCv1_same (h7.2 h hh) (fun x hx => ?_)
        have r1 : ¬ x ∈ cv a' := fun q => q1 (eCv_uniq hn h7 hh ha hx q)
        have r2 : ¬ x ∈ cv b' := fun q => q2 (eCv_uniq hn h7 hh hb hx q)
        have r3 := eCv_lt h7 hh hx
        exact ⟨h43o x (fun q => r1 (by rw [q]; exact hy)), h41o x r2, by rw [hHc 35 (by decide) (by decide)], hNx x 6 r3 (by decide) r2, hNx x 7 r3 (by decide) r2, hNx x 3 r3 (by decide) r2⟩
  · dsimp only
    rw [if_pos rfl]
    exact List.mem_append.mpr (Or.inl hja)
  · have := hN j 6 hj (by decide)
    rw [if_neg (fun q => hdis j hja q.1), if_neg (fun q => absurd q.2 (by decide)), qa3] at this
    exact this
end ZEl
