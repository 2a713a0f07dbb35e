/-! THE PURE PART: a ship is parted -/
section ZEm
set_option maxRecDepth 20000
theorem mPt_r (F : zF) (hd p nx : Int32) (i : Nat) : ∀ k x w, w < 9 → mOf (mPt F hd p nx i k) x w = if x < k ∧ mOf F x 6 = hd ∧ ¬ x = i then (if w = 6 then nx else if w = 7 then (if p < mOf F x 7 then mOf F x 7 - 1 else mOf F x 7) else mOf F x w) else mOf F x w
  | 0, x, w, _ => by
    rw [if_neg (fun q => absurd q.1 (Nat.not_lt_zero x))]
    rfl
  | k + 1, x, w, hw => by
    have ih := mPt_r F hd p nx i k
    have h6 : mOf (mPt F hd p nx i k) k 6 = mOf F k 6 := by rw [ih k 6 (by decide), if_neg (fun q => absurd q.1 (Nat.lt_irrefl k))]
    have h7 : mOf (mPt F hd p nx i k) k 7 = mOf F k 7 := by rw [ih k 7 (by decide), if_neg (fun q => absurd q.1 (Nat.lt_irrefl k))]
    unfold mPt
    rw [h6]
    have hP : mOf (mP1 (mPt F hd p nx i k) p k) x w = if x = k ∧ w = 7 then (if p < mOf F x 7 then mOf F x 7 - 1 else mOf F x 7) else mOf (mPt F hd p nx i k) x w := by
      unfold mP1
      rw [h7]
      by_cases hp : p < mOf F k 7
      · rw [if_pos hp, mOf_zup _ _ _ _ (by decide) hw]
        by_cases hx : x = k ∧ w = 7
        · rw [if_pos hx, if_pos hx, hx.1, if_pos hp]
        · rw [if_neg hx, if_neg hx]
      · rw [if_neg hp]
        by_cases hx : x = k ∧ w = 7
        · rw [if_pos hx, hx.1, hx.2, h7, if_neg hp]
        · rw [if_neg hx]
    by_cases hb : mOf F k 6 = hd ∧ ¬ k = i
    · rw [if_pos hb, mOf_zup _ _ _ _ (by decide) hw, hP, ih x w hw]
      by_cases hx : x = k
      · subst hx
        rw [if_pos (show x < x + 1 ∧ mOf F x 6 = hd ∧ ¬ x = i from ⟨by omega, hb⟩), if_neg (show ¬ (x < x ∧ mOf F x 6 = hd ∧ ¬ x = i) from fun q => absurd q.1 (Nat.lt_irrefl x))]
        by_cases w6 : w = 6
        · rw [if_pos ⟨rfl, w6⟩, if_pos w6]
        · rw [if_neg (fun q => w6 q.2), if_neg w6]
          by_cases w7 : w = 7
          · rw [if_pos ⟨rfl, w7⟩, if_pos w7]
          · rw [if_neg (fun q => w7 q.2), if_neg w7]
      · rw [if_neg (fun q => hx q.1), if_neg (fun q => hx q.1)]
        have e : (x < k + 1) ↔ x < k := by omega
        simp only [e]
    · rw [if_neg hb, ih x w hw]
      by_cases hx : x = k
      · subst hx
        rw [if_neg (fun q => absurd q.1 (Nat.lt_irrefl x)), if_neg (fun q => hb q.2)]
      · have e : (x < k + 1) ↔ x < k := by omega
        simp only [e]
theorem mPt_ne (F : zF) (hd p nx : Int32) (i : Nat) {c : Nat} (hc : c ≠ 1) : ∀ k, mPt F hd p nx i k c = F c
  | 0 => rfl
  | k + 1 => by
    unfold mPt
    split
    · rw [zup_ne _ _ _ hc]
      unfold mP1
      split
      · rw [zup_ne _ _ _ hc, mPt_ne F hd p nx i hc k]
      · exact mPt_ne F hd p nx i hc k
    · exact mPt_ne F hd p nx i hc k
theorem eChn_at {G : zF} : ∀ (L : List Nat) (j x : Nat), eChn G L → L[j]? = some x → G 43 x = eHd (L.drop (j + 1))
  | [], j, x, _, h => nomatch h
  | y :: t, 0, x, hc, h => by
    cases h
    exact hc.2.1
  | y :: t, j + 1, x, hc, h => eChn_at t j x hc.2.2 (by simpa using h)
theorem eHd_e {L : List Nat} {x : Nat} (h : eHd L = nI x) (hx : x < 16) (hl : ∀ y, y ∈ L → y < 16) : L.head? = some x := by
  cases L with
  | nil => exact absurd h.symm (nI_nm (by omega))
  | cons y t =>
    have := (nI_eq (by have := hl y List.mem_cons_self; omega) (by omega)).mp h
    subst this
    rfl
theorem eChn_del {G H : zF} : ∀ (q : Nat) (L : List Nat) (i : Nat), eChn G L → L.Nodup → L[q + 1]? = some i → H 43 (L.getD q 0) = eHd (L.drop (q + 2)) → (∀ x, x ∈ L → x ≠ L.getD q 0 → x ≠ i → H 43 x = G 43 x) → eChn H (L.take (q + 1) ++ L.drop (q + 2))
  | q, [], i, _, _, h, _, _ => nomatch h
  | 0, [x], i, _, _, h, _, _ => nomatch h
  | 0, x :: y :: t, i, hc, hd, h, h1, h2 => by
    have hy : y = i := by simpa using h
    subst hy
    have hd1 := List.nodup_cons.mp hd
    have hd2 := List.nodup_cons.mp hd1.2
    refine ⟨hc.1, h1, ?_⟩
    exact eChn_c t (fun z hz => h2 z (List.mem_cons_of_mem _ (List.mem_cons_of_mem _ hz)) (fun g => hd1.1 (by rw [show x = z from g.symm]; exact List.mem_cons_of_mem _ hz)) (fun g => hd2.1 (by rw [← g]; exact hz))) hc.2.2.2.2
  | q + 1, x :: t, i, hc, hd, h, h1, h2 => by
    have hd1 := List.nodup_cons.mp hd
    have h : t[q + 1]? = some i := by simpa using h
    have e : (x :: t).getD (q + 1) 0 = t.getD q 0 := rfl
    rw [e] at h1 h2
    have hl : q + 1 < t.length := (List.getElem?_eq_some_iff.mp h).1
    have hm : t.getD q 0 ∈ t := by
      rw [List.getD_eq_getElem?_getD, List.getElem?_eq_getElem (show q < t.length by omega)]
      exact List.getElem_mem _
    refine ⟨hc.1, ?_, eChn_del q t i hc.2.2 hd1.2 h h1 (fun z hz g1 g2 => h2 z (List.mem_cons_of_mem _ hz) g1 g2)⟩
    rw [h2 x List.mem_cons_self (fun g => hd1.1 (by rw [g]; exact hm)) (fun g => hd1.1 (by rw [g]; exact List.mem_of_getElem? h)), hc.2.1]
    cases t with
    | nil => exact nomatch h
    | cons y u => rfl
theorem qAh_v {G : zF} {n i y : Nat} (hn : n ≤ 16) (hy : y < n) (h : G 43 y = nI i) (hu : ∀ x, x < n → G 43 x = nI i → x = y) : ∀ d k, k + d = n → k ≤ y → qAh G (nI i) d k = nI y
  | 0, k, h1, h2 => absurd h1 (by omega)
  | d + 1, k, h1, h2 => by
    unfold qAh
    rw [show qNx G (nI k) = G 43 k from zrd_k _ (by omega) (by decide)]
    by_cases hk : k = y
    · rw [hk, if_pos h]
    · rw [if_neg (fun q => hk (hu k (by omega) q))]
      exact qAh_v hn hy h hu d (k + 1) (by omega) (by omega)
theorem ePart {G F : zF} {n m t B : Nat} {cv : Nat → List Nat} (hC : eC G (F 1) n m t t B cv) {i a : Nat} (hi : i < n) (ha : a < n) (hia : i ∈ cv a) (hl2 : (cv a).length ≠ 1) :
    ∃ cv' p, p < 16 ∧ mOf F i 6 = nI a ∧ mOf F p 6 = nI a ∧ mOf F p 7 = (if mOf F i 7 = 0 then 1 else 0) ∧ (∀ j, j < p → ¬ (mOf F j 6 = nI a ∧ mOf F j 7 = (if mOf F i 7 = 0 then 1 else 0))) ∧
      eC (qTk G (nI i)) (mPf2 (mPt F (nI a) (mOf F i 7) (nI p) i n) i 1) n m t t B cv' ∧ (∀ c, 45 ≤ c → qTk G (nI i) c = G c) ∧ ∀ c, c ≠ 1 → mPf2 (mPt F (nI a) (mOf F i 7) (nI p) i n) i c = F c := by
  obtain ⟨h1, h2, h3', h6, h7⟩ := hC
  have hn := h1.1.1
  have hm := h1.1.2.1
  obtain ⟨a', ha', qa1, qa2, qa3, qa4, qa5, qa6, qa7⟩ := eCv_of hn h7 hi
  have := eCv_uniq hn h7 ha' ha qa1 hia
  subst this
  obtain ⟨⟨c1, c2⟩, c3, c4, c5, c6⟩ := h7.2 a' ha
  have hla := eCv_len hn h7 ha
  have haa : a' ∈ cv a' := List.mem_of_mem_head? qa4
  have hl1 : 1 ≤ (cv a').length := List.length_pos_of_mem haa
  obtain ⟨q, hq⟩ := List.mem_iff_getElem?.mp hia
  have hql : q < (cv a').length := (List.getElem?_eq_some_iff.mp hq).1
  have hq7 : mOf F i 7 = nI q := (c4 q i hq).2.2
  have hNx : ∀ p, ∀ x w, w < 9 → mOf (mPf2 (mPt F (nI a') (mOf F i 7) (nI p) i n) i) x w = if x = i ∧ w = 7 then 0 else if x = i ∧ w = 6 then nI i else if x < n ∧ mOf F x 6 = nI a' ∧ ¬ x = i then (if w = 6 then nI p else if w = 7 then (if nI q < mOf F x 7 then mOf F x 7 - 1 else mOf F x 7) else mOf F x w) else mOf F x w := fun p x w hw => by
    unfold mPf2
    rw [mOf_zup _ _ _ _ (by decide) hw, mOf_zup _ _ _ _ (by decide) hw, mPt_r _ _ _ _ _ _ _ _ hw, hq7]
  have hlo : ∀ p, ∀ i2, i2 < 53 → mPf2 (mPt F (nI a') (mOf F i 7) (nI p) i n) i 1 i2 = F 1 i2 := fun p i2 hi2 => by
    unfold mPf2
    rw [zup_an _ _ _ (by omega), zup_an _ _ _ (by omega), mPt_lo _ _ _ _ _ hi2]
  have hne : ∀ p, ∀ c, c ≠ 1 → mPf2 (mPt F (nI a') (mOf F i 7) (nI p) i n) i c = F c := fun p c hc => by
    unfold mPf2
    rw [zup_ne _ _ _ hc, zup_ne _ _ _ hc, mPt_ne _ _ _ _ _ hc]
  have hmem := fun x hx => (eCv_m hn h7 ha).2.1 x hx
  by_cases hq0 : q = 0
  · -- the first ship
    subst hq0
    have hia' : i = a' := by
      rw [List.head?_eq_getElem?] at qa4
      exact Option.some.inj (hq.symm.trans qa4)
    subst hia'
    obtain ⟨p, hp⟩ : ∃ p, (cv i)[1]? = some p := ⟨_, List.getElem?_eq_getElem (show 1 < (cv i).length by omega)⟩
    obtain ⟨p1, p2, p3, p4⟩ := mCv_ship (eCv_m hn h7 ha) hn hp
    have hdr : ((cv i).drop 1).head? = some p := by rw [List.head?_drop]; exact hp
    have hdr2 : eHd ((cv i).drop 1) = nI p := by
      cases hD : (cv i).drop 1 with
      | nil => rw [hD] at hdr; exact nomatch hdr
      | cons y u => rw [hD] at hdr; cases hdr; rfl
    have h0 : (cv i).getD 0 0 = i := by
      rw [List.getD_eq_getElem?_getD, hq]
      rfl
    have hnd : ∀ x, x ∈ (cv i).drop 1 → x ≠ i := fun x hx g => by
      obtain ⟨j, hj⟩ := List.mem_iff_getElem?.mp hx
      rw [List.getElem?_drop] at hj
      rw [g] at hj
      have := (List.getElem?_inj hql c2).mp (hq.trans hj.symm)
      omega
    have hcd : eChn G ((cv i).drop 1) := by
      cases hL : cv i with
      | nil => trivial
      | cons y u => rw [hL] at c1; exact c1.2.2
    have hH : qTk G (nI i) = zup (zup (eSt 41 (nI p) ((cv i).drop 1) G) 41 i (nI i)) 43 i (-1) := by
      unfold qTk
      have e : qNx G (nI i) = nI p := by
        rw [show qNx G (nI i) = G 43 i from zrd_k _ (by omega) (by decide), eChn_at _ 0 i c1 hq]
        exact hdr2
      rw [if_pos qa2, e, zwr_k _ _ _ (by omega) (by decide), zwr_k _ _ _ (by omega) (by decide), ← hdr2, eNm _ 16 G _ hcd (by rw [List.length_drop]; omega)]
    have hH41 : ∀ x, x ∈ (cv i).drop 1 → qTk G (nI i) 41 x = nI p := fun x hx => by
      rw [hH, zup_ne _ _ _ (by decide), zup_an _ _ _ (hnd x hx), eSt_in _ _ _ _ hx]
    have hH41o : ∀ x, ¬ x ∈ (cv i).drop 1 → qTk G (nI i) 41 x = G 41 x := fun x hx => by
      rw [hH, zup_ne _ _ _ (by decide)]
      by_cases g : x = i
      · rw [g, zup_at]
        exact (c5 i hia).1.symm
      · rw [zup_an _ _ _ g, eSt_out _ _ _ _ hx]
    have hH43 : qTk G (nI i) 43 i = -1 := by rw [hH, zup_at]
    have hH43o : ∀ x, x ≠ i → qTk G (nI i) 43 x = G 43 x := fun x hx => by rw [hH, zup_an _ _ _ hx, zup_ne _ _ _ (by decide), eSt_ne _ _ _ _ (by decide)]
    have hHc : ∀ c, c ≠ 41 → c ≠ 43 → qTk G (nI i) c = G c := fun c g1 g2 => by rw [hH, zup_ne _ _ _ g2, zup_ne _ _ _ g1, eSt_ne _ _ _ _ g1]
    have hl := eLow_o (H := qTk G (nI i)) (N := mPf2 (mPt F (nI i) (mOf F i 7) (nI p) i n) i 1) hm (fun c hc => hHc c (by omega) (by omega)) (hlo p) h1 h2 h3'
    have hdx : ∀ x, x < n → mOf F x 6 = nI i → ¬ x = i → x ∈ (cv i).drop 1 := fun x hx g1 g2 => by
      have := (hmem x hx).mp g1
      cases hL : cv i with
      | nil => rw [hL] at this; exact nomatch this
      | cons y u =>
        rw [hL] at this hq
        cases hq
        exact (List.mem_cons.mp this).resolve_left g2
    refine ⟨eCut cv i 1, p, p1, qa3, p2, ?_, ?_, ⟨hl.1, hl.2.1, hl.2.2, ?_, ?_⟩, fun c hc => hHc c (by omega) (by omega), hne p⟩
    · rw [hq7, if_pos (show nI 0 = 0 from rfl)]
      exact p3
    · rw [hq7, if_pos (show nI 0 = 0 from rfl)]
      exact p4
    · refine eSh_p (fun c hc => hHc c (by omega) (by omega)) (fun s w hs hw w6 w7 => ?_) h6
      have := hNx p s w hw
      rw [if_neg (fun g => w7 g.2), if_neg (fun g => w6 g.2), if_neg w6, if_neg w7] at this
      by_cases g : s < n ∧ mOf F s 6 = nI i ∧ ¬ s = i
      · rw [if_pos g] at this; exact this
      · rw [if_neg g] at this; exact this
    · refine eCv_cut (F := F) (N := mPf2 (mPt F (nI i) (mOf F i 7) (nI p) i n) i) hn h7 ha qa4 (p := 0) (by omega) (by rw [h0]; exact hH43) (fun x hx => hH43o x (by rw [h0] at hx; exact hx)) (fun x hx => (hH41 x hx).trans hdr2.symm) hH41o (hHc 35 (by decide) (by decide)) (fun x w hw hx => ?_) (fun j x hj => ?_) (fun x w hw w6 w7 => ?_)
      · rw [hNx p x w hw]
        by_cases g : x = i
        · subst g
          by_cases w7 : w = 7
          · rw [if_pos ⟨rfl, w7⟩, w7, hq7]; rfl
          · rw [if_neg (fun z => w7 z.2)]
            by_cases w6 : w = 6
            · rw [if_pos ⟨rfl, w6⟩, w6, qa3]
            · rw [if_neg (fun z => w6 z.2), if_neg (fun z => z.2.2 rfl)]
        · rw [if_neg (fun z => g z.1), if_neg (fun z => g z.1), if_neg (fun z => hx (hdx x z.1 z.2.1 z.2.2))]
      · have hxm := List.mem_of_getElem? hj
        have g := hnd x hxm
        have hxa := List.mem_of_mem_drop hxm
        have hxn := eCv_lt h7 ha hxa
        rw [List.getElem?_drop] at hj
        have g7 : mOf F x 7 = nI (1 + j) := (c4 _ x hj).2.2
        have hcnd : x < n ∧ mOf F x 6 = nI i ∧ ¬ x = i := ⟨hxn, (hmem x hxn).mpr hxa, g⟩
        have e6 := hNx p x 6 (by decide)
        rw [if_neg (fun z => g z.1), if_neg (fun z => g z.1), if_pos hcnd, if_pos rfl] at e6
        have e7 := hNx p x 7 (by decide)
        rw [if_neg (fun z => g z.1), if_neg (fun z => g z.1), if_pos hcnd, if_neg (by decide), if_pos rfl, g7, if_pos (nI_lt (by omega) (by have := (List.getElem?_eq_some_iff.mp hj).1; omega)), nI_m1 (by omega), show 1 + j - 1 = j by omega] at e7
        exact ⟨e6.trans hdr2.symm, e7⟩
      · rw [hNx p x w hw, if_neg (fun z => w7 z.2), if_neg (fun z => w6 z.2), if_neg w6, if_neg w7]
        split <;> rfl
  · -- a ship behind
    obtain ⟨r, rfl⟩ : ∃ r, q = r + 1 := ⟨q - 1, by omega⟩
    have h0 : (cv a')[0]? = some a' := by rw [← List.head?_eq_getElem?]; exact qa4
    have hne' : i ≠ a' := fun g => by
      rw [g] at hq
      have := (List.getElem?_inj hql c2).mp (hq.trans h0.symm)
      omega
    obtain ⟨p1, p2, p3, p4⟩ := mCv_ship (eCv_m hn h7 ha) hn h0
    have hemp := eCv_emp hn h7 ha hi hia hne'
    have hy : (cv a')[r]? = some ((cv a').getD r 0) := by
      rw [List.getD_eq_getElem?_getD, List.getElem?_eq_getElem (show r < (cv a').length by omega)]
      rfl
    have hyi : (cv a').getD r 0 ≠ i := fun g => by
      rw [g] at hy
      have := (List.getElem?_inj (show r < (cv a').length by omega) c2).mp (hy.trans hq.symm)
      omega
    have hym := List.mem_of_getElem? hy
    have hyn := eCv_lt h7 ha hym
    have hy43 : G 43 ((cv a').getD r 0) = nI i := by
      rw [eChn_at _ r _ c1 hy, eHd_drop, hq]
    have hAh : qAh G (nI i) n 0 = nI ((cv a').getD r 0) := by
      refine qAh_v hn hyn hy43 (fun x hx g => ?_) n 0 (Nat.zero_add n) (Nat.zero_le _)
      obtain ⟨b, hb, hxb⟩ := h7.1 x hx
      obtain ⟨⟨d1, d2⟩, -, d4, -, -⟩ := h7.2 b hb
      obtain ⟨j, hj⟩ := List.mem_iff_getElem?.mp hxb
      have g2 := eChn_at _ j x d1 hj
      rw [g] at g2
      have g3 := eHd_e g2.symm (by omega) (fun z hz => eChn_16 _ d1 z (List.mem_of_mem_drop hz))
      rw [List.head?_drop] at g3
      have g4 := eCv_uniq hn h7 hb ha (List.mem_of_getElem? g3) hia
      subst g4
      have g5 := (List.getElem?_inj (List.getElem?_eq_some_iff.mp g3).1 c2).mp (g3.trans hq.symm)
      have : j = r := by omega
      rw [this] at hj
      exact Option.some.inj (hj.symm.trans hy)
    have hH : qTk G (nI i) = zup (zup (zup G 43 ((cv a').getD r 0) (eHd ((cv a').drop (r + 2)))) 41 i (nI i)) 43 i (-1) := by
      unfold qTk
      have e : qNx G (nI i) = eHd ((cv a').drop (r + 2)) := by
        rw [show qNx G (nI i) = G 43 i from zrd_k _ (by omega) (by decide)]
        exact eChn_at _ (r + 1) i c1 hq
      rw [if_neg (by rw [qa2]; exact fun g => hne' ((nI_eq (by omega) (by omega)).mp g).symm), h1.2.1.2.2.2.2.1, nI_clamp (by omega), hAh, e, zwr_k _ _ _ (by omega) (by decide), zwr_k _ _ _ (by omega) (by decide), zwr_k _ _ _ (by omega) (by decide)]
    have hHc : ∀ c, c ≠ 41 → c ≠ 43 → qTk G (nI i) c = G c := fun c g1 g2 => by rw [hH, zup_ne _ _ _ g2, zup_ne _ _ _ g1, zup_ne _ _ _ g2]
    have hH41 : qTk G (nI i) 41 i = nI i ∧ ∀ x, x ≠ i → qTk G (nI i) 41 x = G 41 x := by
      rw [hH]
      exact ⟨by rw [zup_ne _ _ _ (by decide), zup_at], fun x hx => by rw [zup_ne _ _ _ (by decide), zup_an _ _ _ hx, zup_ne _ _ _ (by decide)]⟩
    have hH43 : qTk G (nI i) 43 i = -1 ∧ qTk G (nI i) 43 ((cv a').getD r 0) = eHd ((cv a').drop (r + 2)) ∧ ∀ x, x ≠ i → x ≠ (cv a').getD r 0 → qTk G (nI i) 43 x = G 43 x := by
      rw [hH]
      exact ⟨zup_at _ _ _ _, by rw [zup_an _ _ _ hyi, zup_ne _ _ _ (by decide), zup_at], fun x g1 g2 => by rw [zup_an _ _ _ g1, zup_ne _ _ _ (by decide), zup_an _ _ _ g2]⟩
    have hi7 : ¬ mOf F i 7 = 0 := by
      rw [hq7]
      exact nI_ne0 (by omega) (by omega)
    have hl := eLow_o (H := qTk G (nI i)) (N := mPf2 (mPt F (nI a') (mOf F i 7) (nI a') i n) i 1) hm (fun c hc => hHc c (by omega) (by omega)) (hlo a') h1 h2 h3'
    have hsub : ((cv a').take (r + 1) ++ (cv a').drop (r + 2)).Sublist (cv a') := by
      have := List.eraseIdx_sublist (cv a') (r + 1)
      rw [List.eraseIdx_eq_take_drop_succ] at this
      exact this
    have hni : ∀ x, x ∈ (cv a').take (r + 1) ++ (cv a').drop (r + 2) → x ≠ i := fun x hx g => by
      have hx2 := List.mem_append.mp hx
      rw [g] at hx2
      have hdq : i ∈ (cv a').drop (r + 1) := by
        rw [List.mem_iff_getElem?]
        exact ⟨0, by rw [List.getElem?_drop]; exact hq⟩
      rcases hx2 with g2 | g2
      · exact eTk_drop c2 g2 hdq
      · obtain ⟨j, hj⟩ := List.mem_iff_getElem?.mp g2
        rw [List.getElem?_drop] at hj
        have := (List.getElem?_inj hql c2).mp (hq.trans hj.symm)
        omega
    refine ⟨fun h => if h = a' then (cv a').take (r + 1) ++ (cv a').drop (r + 2) else if h = i then [i] else cv h, a', p1, qa3, p2, ?_, ?_, ⟨hl.1, hl.2.1, hl.2.2, ?_, ?_⟩, fun c hc => hHc c (by omega) (by omega), hne a'⟩
    · rw [if_neg hi7]
      exact p3
    · rw [if_neg hi7]
      exact p4
    · refine eSh_p (fun c hc => hHc c (by omega) (by omega)) (fun s w hs hw w6 w7 => ?_) h6
      have := hNx a' s w hw
      rw [if_neg (fun g => w7 g.2), if_neg (fun g => w6 g.2), if_neg w6, if_neg w7] at this
      by_cases g : s < n ∧ mOf F s 6 = nI a' ∧ ¬ s = i
      · rw [if_pos g] at this; exact this
      · rw [if_neg g] at this; exact this
    · refine ⟨fun s hs => ?_, fun h hh => ?_⟩
      · obtain ⟨b, hb, hsb⟩ := h7.1 s hs
        dsimp only
        by_cases g1 : s = i
        · exact ⟨i, hi, by rw [if_neg hne', if_pos rfl, g1]; exact List.mem_cons_self⟩
        · by_cases g2 : b = a'
          · refine ⟨a', ha, ?_⟩
            rw [if_pos rfl]
            rw [g2, List.mem_iff_getElem?] at hsb
            obtain ⟨j, hj⟩ := hsb
            rw [List.mem_append, List.mem_iff_getElem?, List.mem_iff_getElem?]
            rcases Nat.lt_trichotomy j (r + 1) with g3 | g3 | g3
            · exact Or.inl ⟨j, by rw [List.getElem?_take, if_pos g3]; exact hj⟩
            · rw [g3] at hj
              exact absurd (Option.some.inj (hj.symm.trans hq)) g1
            · exact Or.inr ⟨j - (r + 2), by rw [List.getElem?_drop, show r + 2 + (j - (r + 2)) = j by omega]; exact hj⟩
          · refine ⟨b, hb, ?_⟩
            rw [if_neg g2, if_neg (fun g3 => ?_)]
            · exact hsb
            · rw [g3, hemp] at hsb
              exact nomatch hsb
      · dsimp only
        by_cases g1 : h = a'
        · subst g1
          rw [if_pos rfl]
          refine ⟨⟨eChn_del r _ i c1 c2 hq hH43.2.1 (fun x _ g1 g2 => hH43.2.2 x g2 g1), c2.sublist hsub⟩, Or.inr ?_, fun j x hj => ?_, fun x hx => ?_, fun g => ?_⟩
          · rw [List.head?_append]
            cases hL : cv h with
            | nil => rw [hL] at haa; exact nomatch haa
            | cons y u =>
              rw [hL] at qa4
              cases qa4
              rfl
          · have hxi := hni x (List.mem_of_getElem? hj)
            have key : ∀ j2, (cv h)[j2]? = some x → j2 ≠ r + 1 → (x < n ∧ mOf (mPf2 (mPt F (nI h) (mOf F i 7) (nI h) i n) i) x 6 = nI h ∧ mOf (mPf2 (mPt F (nI h) (mOf F i 7) (nI h) i n) i) x 7 = nI (if r + 1 < j2 then j2 - 1 else j2)) := fun j2 hj2 hne2 => by
              have g := c4 j2 x hj2
              have g7 : mOf F x 7 = nI j2 := g.2.2
              have hj2l := (List.getElem?_eq_some_iff.mp hj2).1
              refine ⟨g.1, ?_, ?_⟩
              · rw [hNx h x 6 (by decide), if_neg (fun z => hxi z.1), if_neg (fun z => hxi z.1), if_pos ⟨g.1, g.2.1, hxi⟩, if_pos rfl]
              · rw [hNx h x 7 (by decide), if_neg (fun z => hxi z.1), if_neg (fun z => hxi z.1), if_pos ⟨g.1, g.2.1, hxi⟩, if_neg (by decide), if_pos rfl, g7]
                by_cases g8 : r + 1 < j2
                · rw [if_pos (nI_lt g8 (by omega)), if_pos g8, nI_m1 (by omega)]
                · rw [if_neg (nI_nlt (by omega) (by omega)), if_neg g8]
            by_cases hjr : j < r + 1
            · have e1 : ((cv h).take (r + 1)).length = r + 1 := by rw [List.length_take]; omega
              rw [List.getElem?_append_left (by omega), List.getElem?_take, if_pos hjr] at hj
              have := key j hj (by omega)
              rw [if_neg (by omega)] at this
              exact this
            · have e1 : ((cv h).take (r + 1)).length = r + 1 := by rw [List.length_take]; omega
              rw [List.getElem?_append_right (by omega), e1, List.getElem?_drop, show r + 2 + (j - (r + 1)) = j + 1 by omega] at hj
              have := key (j + 1) hj (by omega)
              rw [if_pos (by omega), Nat.add_sub_cancel] at this
              exact this
          · have hxa := hsub.mem hx
            have hxn := eCv_lt h7 ha hxa
            have e3 : ∀ s, mOf (mPf2 (mPt F (nI h) (mOf F i 7) (nI h) i n) i) s 3 = mOf F s 3 := fun s => by
              rw [hNx h s 3 (by decide), if_neg (fun z => absurd z.2 (by decide)), if_neg (fun z => absurd z.2 (by decide))]
              split
              · rw [if_neg (by decide), if_neg (by decide)]
              · rfl
            have e3x : eO (mPf2 (mPt F (nI h) (mOf F i 7) (nI h) i n) i 1) x 3 = eO (F 1) x 3 := e3 x
            have e3h : eO (mPf2 (mPt F (nI h) (mOf F i 7) (nI h) i n) i 1) h 3 = eO (F 1) h 3 := e3 h
            rw [hH41.2 x (hni x hx), hHc 35 (by decide) (by decide), e3x, e3h]
            exact c5 x hxa
          · rw [hHc 35 (by decide) (by decide)] at g
            have g2 := c6 g
            have g3 := hsub.length_le
            omega
        · rw [if_neg g1]
          by_cases g2 : h = i
          · subst g2
            rw [if_pos rfl]
            refine ⟨⟨⟨by omega, hH43.1, True.intro⟩, List.nodup_cons.mpr ⟨List.not_mem_nil, List.nodup_nil⟩⟩, Or.inr rfl, fun j x hj => ?_, fun x hx => ?_, fun _ => Nat.le_refl _⟩
            · cases j with
              | zero =>
                cases hj
                have e6 := hNx a' h 6 (by decide)
                have e7 := hNx a' h 7 (by decide)
                rw [if_neg (fun z => absurd z.2 (by decide)), if_pos ⟨rfl, rfl⟩] at e6
                rw [if_pos ⟨rfl, rfl⟩] at e7
                exact ⟨hi, e6, e7⟩
              | succ j => exact nomatch hj
            · have hxb := List.mem_singleton.mp hx
              subst hxb
              exact ⟨hH41.1, rfl, rfl⟩
          · rw [if_neg g2]
            refine eCv1_same (h7.2 h hh) (fun x hx => ?_)
            have r1 : ¬ x ∈ cv a' := fun g => g1 (eCv_uniq hn h7 hh ha hx g)
            have r2 : x ≠ i := fun g => r1 (by rw [g]; exact hia)
            have r3 := eCv_lt h7 hh hx
            have e : ∀ w, w < 9 → mOf (mPf2 (mPt F (nI a') (mOf F i 7) (nI a') i n) i) x w = mOf F x w := fun w hw => by
              rw [hNx a' x w hw, if_neg (fun z => r2 z.1), if_neg (fun z => r2 z.1), if_neg (fun z => r1 ((hmem x r3).mp z.2.1))]
            exact ⟨hH43.2.2 x r2 (fun g => r1 (by rw [g]; exact hym)), hH41.2 x r2, by rw [hHc 35 (by decide) (by decide)], e 6 (by decide), e 7 (by decide), e 3 (by decide)⟩
end ZEm
