/-! THE PURE PART: the calls lock, waiting -/
section ZEq
set_option maxRecDepth 20000
theorem eLkp {s : Int32} {m : Nat} (hm : m ≤ 5) : (0 ≤ s ∧ s ≤ nI m - 2) ↔ (0 ≤ s ∧ s < nI (m - 1)) := by
  have h1 : (nI m - 2).toInt = (m : Int) - 2 := eSub_i (x := m) (y := 2) (by omega) (by decide)
  rw [Int32.le_iff_toInt_le, Int32.le_iff_toInt_le, Int32.lt_iff_toInt_lt, h1, nI_toInt (by omega), show (0 : Int32).toInt = 0 from rfl]
  omega
theorem mOrd_c {F G : zF} (e : G 1 = F 1) (n : Nat) (l : Int32) : ∀ k, mOrd G n l k = mOrd F n l k
  | 0 => rfl
  | k + 1 => by
    have hi : ∀ s R, mInR G n s R = mInR F n s R := fun s R => by
      induction R with
      | nil => rfl
      | cons h t ih =>
        unfold mInR
        rw [ih, mPr_c e, mPr_c e]
    have e6 : ∀ s w, mOf G s w = mOf F s w := fun s w => by unfold mOf; rw [e]
    unfold mOrd
    rw [mOrd_c e n l k, e6, e6, mLk_c e, hi]
theorem mOd_14 (F : zF) (n : Nat) (l : Int32) : mOd F n l 0 14 = nI (mOrd F n l n).length := by
  unfold mOd
  rw [mOrd_c (mT_1 F)]
  unfold zls
  rw [if_neg (fun q => absurd q.1 (by decide)), if_pos ⟨rfl, rfl⟩]
theorem mOd_o (F : zF) (n : Nat) (l : Int32) : (∀ i, i ≠ 14 → mOd F n l 0 i = mT F 0 i) ∧ ∀ c, c ≠ 0 → c ≠ 7 → mOd F n l c = F c := by
  unfold mOd zls
  refine ⟨fun i q => ?_, fun c q0 q7 => ?_⟩
  · rw [if_neg (fun z => absurd z.1 (by decide)), if_neg (fun z => q z.2)]
  · funext i
    rw [if_neg (fun z => q7 z.1), if_neg (fun z => q0 z.1)]
    unfold mT
    rw [zup_ne _ _ _ q0]
theorem mOd_at (F : zF) (n : Nat) (l : Int32) {j s : Nat} (h : (mOrd F n l n)[j]? = some s) : mOd F n l 7 j = nI s := by
  unfold mOd
  rw [mOrd_c (mT_1 F)]
  unfold zls
  rw [if_pos ⟨rfl, (List.getElem?_eq_some_iff.mp h).1⟩, List.getD_eq_getElem?_getD, h]
  rfl
theorem eBoth_od {Fc Fm : zF} (h : eBoth Fc Fm) (n : Nat) (l : Int32) : eBoth Fc (mOd Fm n l) := by
  have q := mOd_o Fm n l
  refine eBoth_0 h (fun c hc => q.2 c (by omega) (by omega)) (fun i hi => ?_)
  rw [q.1 i (by omega)]
  exact zup_an _ _ _ (by omega)
theorem k_lock (r w : Int32) : eCall sX8_lock sX9_lock [.ref 495, .int r, .int w] [.ref 0, .int r, .int w] [xI, xA] := by
  intro Fc Fm h
  dsimp only [sX8_lock, sX9_lock]
  obtain ⟨n, m, tk, cv, hC⟩ := h.1
  obtain ⟨hS, h2, h3, h6, h7⟩ := hC
  obtain ⟨⟨hn, hm, hnm, ht⟩, ⟨s0, s1, s2, s3, s4, s5⟩, -, ⟨p, hp1, hp2, hp⟩, -⟩ := hS
  have hq : (0 ≤ r ∧ r ≤ Fm 1 1 - 2) ↔ (0 ≤ r ∧ r < Fc 8 9) := by rw [s1, s5]; exact eLkp hm
  by_cases c1 : 0 ≤ r ∧ r < Fc 8 9
  · have c1' := hq.mpr c1
    have c1b := c1
    rw [s5] at c1b
    obtain ⟨k, hk, rfl⟩ := eI16 (by omega) c1b
    have fin : ∀ {v v' : Int32}, v = v' → some (Value.int v) = some (Value.int v') ∧ mT Fm 0 0 = 0 ∧ eBoth Fc (mT Fm) := fun e => ⟨by rw [e], mT_00 _, eBoth_t h 0⟩
    obtain ⟨l0, l1, l2, l3, l5, l6, len, c, nb, f, b, lb, ⟨lk0, lk1, lk2, lk3, lk4⟩, lk5, lk6⟩ := eLo_v h3 hm (k := k) (by omega)
    have hb8 := mB_8 lb.2.2.2.2.1 lb.2.2.2.2.2.2
    have hG25 : (Fc 25 9).toNatClampNeg = n := by rw [s4]; exact nI_clamp (by omega)
    by_cases c2 : 0 ≤ w ∧ w ≤ 9
    · refine ⟨fun _ => ⟨fun _ => ⟨_, rfl, fun _ => ⟨k, b, n, rfl, by omega, hb8, lk4, hn, s2, by rw [hp]; exact nI_ne0 (by omega) (by omega), fun q => ?_, fun q => ?_, fun q => ?_, fun q => ?_, fun q => ?_, fun q => ?_, fun q => ?_, fun q => ?_, fun q => ?_, fun q => ?_, fun q => absurd c2 q⟩, fun q => absurd c1' q⟩, fun q => absurd c2 q⟩, fun q => absurd c1 q⟩
      · subst q
        exact fin (l0.symm.trans (if_pos rfl).symm)
      · subst q
        exact fin (l1.symm.trans ((if_neg (by decide)).trans (if_pos rfl)).symm)
      · subst q
        exact fin (l2.symm.trans ((if_neg (by decide)).trans ((if_neg (by decide)).trans (if_pos rfl))).symm)
      · subst q
        refine fin ?_
        unfold aLock
        rw [if_neg (by decide), if_neg (by decide), if_neg (by decide), if_pos rfl, lk1, nI_div4 c lb.2.2.2.1]
        exact lk5.symm
      · subst q
        refine fin ?_
        unfold aLock
        rw [if_neg (by decide), if_neg (by decide), if_neg (by decide), if_neg (by decide), if_pos rfl]
        exact l3.symm
      · subst q
        refine fin ?_
        unfold aLock
        rw [if_neg (by decide), if_neg (by decide), if_neg (by decide), if_neg (by decide), if_neg (by decide), if_pos rfl]
        exact lk6.symm
      · subst q
        refine fin ?_
        unfold aLock
        rw [if_neg (by decide), if_neg (by decide), if_neg (by decide), if_neg (by decide), if_neg (by decide), if_neg (by decide), if_pos rfl]
        show _ = qFu Fc (nI k) * qCh Fc (nI k) + qFb Fc (nI k) * qQu Fc (nI k)
        unfold mHd mBc
        rw [l3, l1, lk6, lk5, lk4, lk1, nI_div4 c lb.2.2.2.1, nI_clamp (by omega), Int32.mul_comm (nI (c / 4))]
      · subst q
        refine ⟨?_, ?_, eBoth_od h n (nI k)⟩
        · have e : aLock Fc (nI k) 7 = mOd Fm n (nI k) 0 14 := by
            unfold aLock
            rw [if_neg (by decide), if_neg (by decide), if_neg (by decide), if_neg (by decide), if_neg (by decide), if_neg (by decide), if_neg (by decide), if_pos rfl, hG25, eCva hn hm h7 h6 (by omega) n (Nat.le_refl _), mOd_14]
          rw [e]
        · rw [(mOd_o Fm n (nI k)).1 0 (by decide)]
          exact mT_00 _
      · subst q
        refine fin ?_
        unfold aLock
        rw [if_neg (by decide), if_neg (by decide), if_neg (by decide), if_neg (by decide), if_neg (by decide), if_neg (by decide), if_neg (by decide), if_neg (by decide), if_pos rfl]
        exact l5.symm
      · subst q
        refine fin ?_
        unfold aLock
        rw [if_neg (by decide), if_neg (by decide), if_neg (by decide), if_neg (by decide), if_neg (by decide), if_neg (by decide), if_neg (by decide), if_neg (by decide), if_neg (by decide)]
        exact l6.symm
    · have no : ∀ j, j < 10 → ¬ w = nI j := fun j hj q => c2 (by rw [q]; exact ⟨nI_pos' (by omega), nI_le (b := 9) (by omega) (by decide)⟩)
      refine ⟨fun _ => ⟨fun q => absurd q c2, fun _ => ⟨fun _ => ⟨k, b, n, rfl, by omega, hb8, lk4, hn, s2, by rw [hp]; exact nI_ne0 (by omega) (by omega), fun q => absurd q (no 0 (by decide)), fun q => absurd q (no 1 (by decide)), fun q => absurd q (no 2 (by decide)), fun q => absurd q (no 3 (by decide)), fun q => absurd q (no 4 (by decide)), fun q => absurd q (no 5 (by decide)), fun q => absurd q (no 6 (by decide)), fun q => absurd q (no 7 (by decide)), fun q => absurd q (no 8 (by decide)), fun q => absurd q (no 9 (by decide)), fun _ => eRs h 2 _ _ (by simp) (by decide) (by decide)⟩, fun q => absurd c1' q⟩⟩, fun q => absurd c1 q⟩
  · exact ⟨fun q => absurd q c1, fun _ => ⟨fun q => absurd (hq.mp q) c1, fun _ => eRs h 1 _ _ (by simp) (by decide) (by decide)⟩⟩
/-- how many come before -/
theorem eCAh {G : zF} {h l : Int32} {P : Nat → Prop} : ∀ (k : Nat) (L : List Nat), L.Nodup → (∀ s, s < k → ((qFA G (nI s) l ∧ qCB G (nI s) h) ↔ s ∈ L)) → (∀ x, x ∈ L → x < k) → qCAh G h l k = nI L.length
  | 0, L, _, _, h3 => by
    cases L with
    | nil => rfl
    | cons x t => exact absurd (h3 x List.mem_cons_self) (Nat.not_lt_zero x)
  | k + 1, L, h1, h2, h3 => by
    have ih := eCAh (P := P) (G := G) (h := h) (l := l) k (L.erase k) (h1.erase k) (fun s hs => by rw [h2 s (by omega), h1.mem_erase_iff]; exact ⟨fun h4 => ⟨by omega, h4⟩, fun h4 => h4.2⟩) (fun x hx => by
      have h4 := h1.mem_erase_iff.mp hx
      have h5 := h3 x h4.2
      omega)
    unfold qCAh
    rw [ih]
    by_cases h4 : k ∈ L
    · have h5 := List.length_pos_of_mem h4
      rw [if_pos ((h2 k (by omega)).mpr h4), List.length_erase_of_mem h4, nI_1, Nat.sub_add_cancel h5]
    · rw [if_neg (fun h5 => h4 ((h2 k (by omega)).mp h5)), List.erase_of_not_mem h4, Int32.add_zero]
theorem qCIO_v {G : zF} {l x : Int32} {n p : Nat} {y : Nat} (hy : y < n) (h1 : qFA G (nI y) l ∧ qCAh G (nI y) l p = x) (hp : (G 25 9).toNatClampNeg = p) (hu : ∀ s, s < n → qFA G (nI s) l → qCAh G (nI s) l p = x → s = y) : ∀ d k, k + d = n → k ≤ y → qCIO G l x d k = nI y
  | 0, k, h3, h4 => absurd h3 (by omega)
  | d + 1, k, h3, h4 => by
    unfold qCIO
    rw [hp]
    by_cases hk : k = y
    · rw [hk, if_pos h1]
    · rw [if_neg (fun q => hk (hu k (by omega) q.1 q.2))]
      exact qCIO_v hy h1 hp hu d (k + 1) (by omega) (by omega)
theorem qCIO_n {G : zF} {l x : Int32} {n p : Nat} (hp : (G 25 9).toNatClampNeg = p) (hu : ∀ s, s < n → qFA G (nI s) l → ¬ qCAh G (nI s) l p = x) : ∀ d k, k + d = n → qCIO G l x d k = -1
  | 0, k, h3 => rfl
  | d + 1, k, h3 => by
    unfold qCIO
    rw [hp, if_neg (fun q => hu k (by omega) q.1 q.2)]
    exact qCIO_n hp hu d (k + 1) (by omega)
theorem k_waiting (r x : Int32) : eCall sX8_waiting sX9_waiting [.ref 495, .int r, .int x] [.ref 0, .int r, .int x] [xI, xE] := by
  intro Fc Fm h
  dsimp only [sX8_waiting, sX9_waiting]
  obtain ⟨n, m, tk, cv, hC⟩ := h.1
  have hC0 := hC
  obtain ⟨hS, h2, h3, h6, h7⟩ := hC
  obtain ⟨⟨hn, hm, hnm, ht⟩, ⟨s0, s1, s2, s3, s4, s5⟩, -, ⟨p, hp1, hp2, hp⟩, -⟩ := hS
  have hq : (0 ≤ r ∧ r ≤ Fm 1 1 - 2) ↔ (0 ≤ r ∧ r < Fc 8 9) := by rw [s1, s5]; exact eLkp hm
  by_cases c1 : 0 ≤ r ∧ r < Fc 8 9
  · have c1' := hq.mpr c1
    have c1b := c1
    rw [s5] at c1b
    obtain ⟨k, hk, rfl⟩ := eI16 (by omega) c1b
    have hG25 : (Fc 25 9).toNatClampNeg = n := by rw [s4]; exact nI_clamp (by omega)
    have hmem : ∀ i, i < n → (i ∈ mOrd Fm n (nI k) n ↔ qFA Fc (nI i) (nI k)) := fun i hi => by
      have hA := eAt_iff hn hm h7 h6 hi (l := k) (by omega)
      show _ ↔ (qFi Fc (nI i) = nI i ∧ qWa Fc (nI i) = nI k)
      rw [hA, mOrd_mem]
      exact ⟨fun h => h.2, fun h => ⟨hi, h⟩⟩
    have hpr : ∀ i, i ∈ mOrd Fm n (nI k) n → ∃ v, v ≤ 512 ∧ qPr Fc (nI i) = nI v ∧ mPr Fm n i = nI v := fun i hi => by
      obtain ⟨hin, hf, h4, h5⟩ := (mOrd_mem Fm n _ n i).mp hi
      have h35 : Fc 35 i = nI k := (eSh_v h6 hn hm hin).2.2.2.2.2.2.2.1.symm.trans ((eSh_v h6 hn hm hin).2.2.2.2.2.1.trans h5)
      have hhd := eCv_hd hn h7 hin hf
      obtain ⟨-, -, -, -, g5, y, g6, g7, g8⟩ := eAt h6 hm hin h35 (by omega)
      exact ePr hC0 hin hhd.2.2 g7 g8 g6 g5
    have hcb : ∀ i s, i ∈ mOrd Fm n (nI k) n → s ∈ mOrd Fm n (nI k) n → (qCB Fc (nI i) (nI s) ↔ eBf Fm n i s) := fun i s hi hs => by
      obtain ⟨v, v1, v2, v3⟩ := hpr i hi
      obtain ⟨w, w1, w2, w3⟩ := hpr s hs
      have hil := mOrd_lt Fm n _ n i hi
      have hsl := mOrd_lt Fm n _ n s hs
      unfold qCB eBf
      rw [v2, w2, v3, w3, nI_toInt (by omega), nI_toInt (by omega), eSub_0 (by omega) (by omega), eSub_e (by omega) (by omega), nI_ltI (by omega) (by omega)]
      omega
    have hsrt := mOrd_srt Fm n (nI k) n
    have hnd : (mOrd Fm n (nI k) n).Nodup := hsrt.imp (fun {a b} q => fun e => by
      unfold eBf at q
      rw [e] at q
      omega)
    have hcnt : ∀ q s, (mOrd Fm n (nI k) n)[q]? = some s → qCAh Fc (nI s) (nI k) n = nI q := fun q s hs => by
      have hql := (List.getElem?_eq_some_iff.mp hs).1
      have hsm := List.mem_of_getElem? hs
      have e := eCAh (P := fun _ => True) (G := Fc) (h := nI s) (l := nI k) n ((mOrd Fm n (nI k) n).take q) (hnd.sublist (List.take_sublist _ _)) (fun i hi => ?_) (fun y hy => mOrd_lt Fm n _ n y (List.mem_of_mem_take hy))
      · rw [e, List.length_take, Nat.min_eq_left (by omega)]
      · constructor
        · rintro ⟨q1, q2⟩
          have him := (hmem i hi).mpr q1
          have hbf := (hcb i s him hsm).mp q2
          obtain ⟨j, hj⟩ := List.mem_iff_getElem?.mp him
          rw [List.mem_iff_getElem?]
          refine ⟨j, ?_⟩
          rw [List.getElem?_take]
          rcases Nat.lt_trichotomy j q with g | g | g
          · rw [if_pos g]; exact hj
          · rw [g, hs] at hj
            cases hj
            unfold eBf at hbf
            omega
          · have hjl := (List.getElem?_eq_some_iff.mp hj).1
            have := (List.pairwise_iff_getElem.mp hsrt) q j hql hjl g
            rw [(List.getElem?_eq_some_iff.mp hj).2, (List.getElem?_eq_some_iff.mp hs).2] at this
            unfold eBf at hbf this
            omega
        · intro hi2
          have him := List.mem_of_mem_take hi2
          refine ⟨(hmem i hi).mp him, (hcb i s him hsm).mpr ?_⟩
          obtain ⟨j, hj⟩ := List.mem_iff_getElem?.mp hi2
          rw [List.getElem?_take] at hj
          split at hj
          · rename_i g
            have hjl := (List.getElem?_eq_some_iff.mp hj).1
            have := (List.pairwise_iff_getElem.mp hsrt) j q hjl hql g
            rw [(List.getElem?_eq_some_iff.mp hj).2, (List.getElem?_eq_some_iff.mp hs).2] at this
            exact this
          · exact nomatch hj
    have hlen : (mOrd Fm n (nI k) n).length ≤ 16 := Nat.le_trans (mOrd_len Fm n _ n) hn
    have hx : (0 ≤ x ∧ x ≤ mOd Fm n (nI k) 0 14 - 1) ↔ (0 ≤ x ∧ x < nI (mOrd Fm n (nI k) n).length) := by rw [mOd_14]; exact eShp hlen
    by_cases c2 : 0 ≤ x ∧ x ≤ mOd Fm n (nI k) 0 14 - 1
    · obtain ⟨q, hql, rfl⟩ := eI16 hlen (hx.mp c2)
      obtain ⟨y, hy⟩ : ∃ y, (mOrd Fm n (nI k) n)[q]? = some y := ⟨_, List.getElem?_eq_getElem hql⟩
      have hym := List.mem_of_getElem? hy
      have hyn := mOrd_lt Fm n _ n y hym
      have hv : qCIO Fc (nI k) (nI q) (Fc 25 9).toNatClampNeg 0 = nI y := by
        rw [hG25]
        refine qCIO_v hyn ⟨(hmem y hyn).mp hym, hcnt q y hy⟩ hG25 (fun s hs g1 g2 => ?_) n 0 (Nat.zero_add n) (Nat.zero_le _)
        have hsm := (hmem s hs).mpr g1
        obtain ⟨j, hj⟩ := List.mem_iff_getElem?.mp hsm
        have hjl := (List.getElem?_eq_some_iff.mp hj).1
        rw [hcnt j s hj] at g2
        have := (nI_eq (by omega) (by omega)).mp g2
        rw [this, hy] at hj
        exact (Option.some.inj hj).symm
      have hne : ¬ qCIO Fc (nI k) (nI q) (Fc 25 9).toNatClampNeg 0 = -1 := by rw [hv]; exact nI_nm (by omega)
      refine ⟨fun _ => ⟨fun _ => ⟨_, rfl, fun _ => ⟨n, hn, s2, by rw [hp]; exact nI_ne0 (by omega) (by omega), fun _ => ⟨q, rfl, by omega, by rw [hv, mOd_at Fm n (nI k) hy], ?_, eBoth_od h n (nI k)⟩, fun g => absurd c2 g⟩, fun g => absurd c1' g⟩, fun g => absurd hne g⟩, fun g => absurd c1 g⟩
      rw [(mOd_o Fm n (nI k)).1 0 (by decide)]
      exact mT_00 _
    · have hv : qCIO Fc (nI k) x (Fc 25 9).toNatClampNeg 0 = -1 := by
        rw [hG25]
        refine qCIO_n (n := n) hG25 (fun s hs g1 g2 => c2 (hx.mpr ?_)) n 0 (Nat.zero_add n)
        have hsm := (hmem s hs).mpr g1
        obtain ⟨j, hj⟩ := List.mem_iff_getElem?.mp hsm
        have hjl := (List.getElem?_eq_some_iff.mp hj).1
        rw [← g2, hcnt j s hj]
        exact ⟨nI_pos' (by omega), nI_lt hjl (by omega)⟩
      refine ⟨fun _ => ⟨fun g => absurd hv g, fun _ => ⟨fun _ => ⟨n, hn, s2, by rw [hp]; exact nI_ne0 (by omega) (by omega), fun g => absurd g c2, fun _ => ⟨⟨_, rfl⟩, ⟨by rw [zup_at]; decide, by decide, by simp⟩, eBoth_t (eBoth_od h n (nI k)) 2⟩⟩, fun g => absurd c1' g⟩⟩, fun g => absurd c1 g⟩
  · exact ⟨fun q => absurd q c1, fun _ => ⟨fun q => absurd (hq.mp q) c1, fun _ => eRs h 1 _ _ (by simp) (by decide) (by decide)⟩⟩
end ZEq
