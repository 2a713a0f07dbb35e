/-! a lock works: its loop -/
section ZM8
set_option maxRecDepth 20000
theorem mEx_e {G : zF} {k c nb m : Nat} (e1 : mLP G k 1 = nI c) (e2 : c ≤ 60) (e3 : mLP G k 2 = nI nb) (e4 : nb ≤ 3) (e5 : mLP G k 4 = nI m) (e6 : m < 2 ^ nb) : mEx G k = mEmp G k c nb m := by
  have h7 := (mB_pw nb e4).1
  unfold mEx
  rw [e1, e3, e5, nI_clamp (by omega), nI_clamp (by omega), nI_clamp (by omega)]
theorem mB_8 {nb m : Nat} (e4 : nb ≤ 3) (e6 : m < 2 ^ nb) : m < 8 := Nat.lt_of_lt_of_le e6 (mB_pw nb e4).1
theorem mFx_e {G : zF} {k nb m : Nat} (e4 : nb ≤ 3) (e5 : mLP G k 4 = nI m) (e6 : m < 2 ^ nb) : (mLP G k 4).toNatClampNeg = m := by
  have h7 := mB_8 e4 e6
  rw [e5, nI_clamp (by omega)]
theorem mLk_c {F G : zF} (e : G 1 = F 1) (s : Nat) : mLk G s = mLk F s := mLk_hi (fun i _ => by rw [e]) s
theorem mPw {G : zF} {k h : Nat} {L : List Nat} (hk : k < 4) (a1 : ¬ G 1 (10 + 3 * k) = 0) (a2 : ¬ G 1 (10 + 3 * (k + 1)) = 0) (h4 : ¬ mOf G h 4 < 0) (hl : mLk G h = nI k) : ∃ r t, r < 5 ∧ t < 5 ∧ mOf G h 4 = nI r ∧ mNx G h = nI t ∧ (∀ j, j < 5 → j = r ∨ j = t ∨ j = k → ¬ G 1 (10 + 3 * j) = 0) ∧ mWr G h k L = mRu G h k r t L := by
  have hl2 := hl
  unfold mLk at hl2
  rw [if_neg h4] at hl2
  have a3 : ∀ j, j < 5 → j = k + 1 ∨ j = k ∨ j = k → ¬ G 1 (10 + 3 * j) = 0 := by
    rintro j _ (e | e | e)
    · rw [e]; exact a2
    · rw [e]; exact a1
    · rw [e]; exact a1
  by_cases h3 : mOf G h 3 = 1
  · rw [if_pos h3] at hl2
    have e1 : mOf G h 4 = nI (k + 1) := by
      rw [← nI_1, ← hl2, Int32.sub_add_cancel]
    have e2 : mNx G h = nI k := by
      unfold mNx
      rw [if_pos h3]
      exact hl2
    refine ⟨k + 1, k, by omega, by omega, e1, e2, a3, ?_⟩
    unfold mWr
    rw [e1, e2, nI_clamp (by omega), nI_clamp (by omega)]
  · rw [if_neg h3] at hl2
    have e2 : mNx G h = nI (k + 1) := by
      unfold mNx
      rw [if_neg h3, hl2, nI_1]
    refine ⟨k, k + 1, by omega, by omega, hl2, e2, fun j hj e => a3 j hj (by omega), ?_⟩
    unfold mWr
    rw [hl2, e2, nI_clamp (by omega), nI_clamp (by omega)]

def kX9_works : List zI := [
  (0, 1, .aload_n 0, [], 0),
  (1, 1, .iload_n 1, [], 0),
  (2, 3, .invokevirtual 96, [], 0),
  (5, 1, .iconst 0, [], 0),
  (6, 1, .istore_n 2, [], 0),
  (7, 1, .iload_n 2, [], 0),
  (8, 1, .aload_n 0, [], 0),
  (9, 3, .getfield 100, [], 0),
  (12, 3, .if_icmp .ge 124, [136], 0),
  (15, 1, .aload_n 0, [], 0),
  (16, 3, .getfield 32, [], 0),
  (19, 1, .iload_n 2, [], 0),
  (20, 1, .iaload, [], 0),
  (21, 1, .istore_n 3, [], 0),
  (22, 1, .aload_n 0, [], 0),
  (23, 1, .iload_n 3, [], 0),
  (24, 3, .invokevirtual 181, [], 0),
  (27, 3, .ifCond .ne 103, [130], 0),
  (30, 1, .aload_n 0, [], 0),
  (31, 1, .iload_n 3, [], 0),
  (32, 3, .invokevirtual 171, [], 0),
  (35, 3, .ifCond .le 6, [41], 0),
  (38, 3, .goto 92, [130], 0),
  (41, 1, .aload_n 0, [], 0),
  (42, 1, .iload_n 3, [], 0),
  (43, 1, .iconst 3, [], 3),
  (44, 3, .invokevirtual 75, [], 0),
  (47, 3, .ifCond .ne 7, [54], 0),
  (50, 1, .iconst 1, [], 1),
  (51, 3, .goto 4, [55], 0),
  (54, 1, .iconst 0, [], 0),
  (55, 2, .istore 4, [], 0),
  (57, 2, .iload 4, [], 0),
  (59, 3, .ifCond .eq 23, [82], 0),
  (62, 1, .aload_n 0, [], 0),
  (63, 1, .iload_n 1, [], 0),
  (64, 1, .iconst 3, [], 3),
  (65, 3, .invokevirtual 79, [], 0),
  (68, 3, .ifCond .ne 14, [82], 0),
  (71, 1, .aload_n 0, [], 0),
  (72, 1, .iload_n 1, [], 0),
  (73, 3, .invokevirtual 184, [], 0),
  (76, 3, .ifCond .ne 6, [82], 0),
  (79, 3, .goto 51, [130], 0),
  (82, 2, .iload 4, [], 0),
  (84, 3, .ifCond .ne 18, [102], 0),
  (87, 1, .aload_n 0, [], 0),
  (88, 1, .iload_n 1, [], 0),
  (89, 1, .iconst 3, [], 3),
  (90, 3, .invokevirtual 79, [], 0),
  (93, 1, .iconst 1, [], 1),
  (94, 3, .if_icmp .ne 8, [102], 0),
  (97, 1, .aload_n 0, [], 0),
  (98, 1, .iload_n 1, [], 0),
  (99, 3, .invokevirtual 187, [], 0),
  (102, 2, .iload 4, [], 0),
  (104, 3, .ifCond .eq 11, [115], 0),
  (107, 1, .aload_n 0, [], 0),
  (108, 1, .iload_n 1, [], 0),
  (109, 3, .invokevirtual 187, [], 0),
  (112, 3, .goto 12, [124], 0),
  (115, 1, .aload_n 0, [], 0),
  (116, 1, .iload_n 1, [], 0),
  (117, 3, .invokevirtual 184, [], 0),
  (120, 3, .ifCond .ne 4, [124], 0),
  (123, 1, .return_, [], 0),
  (124, 1, .aload_n 0, [], 0),
  (125, 1, .iload_n 3, [], 0),
  (126, 3, .invokevirtual 190, [], 0),
  (129, 1, .return_, [], 0),
  (130, 3, .iinc 2 1, [], 1),
  (133, 3, .goto (-126), [7], 0),
  (136, 1, .return_, [], 0)]
theorem kX9_works_ok : kX9_works.all (zck cX9_works) = true := by decide +kernel

def rX9_works : Room := { frames := 4, cells := 0, slots := 0, locals := 97 }
abbrev YX9_works : zM := (RX9, cX9_works, 5, none, rX9_works, UM, zlk fX9, zcs [(96, 2, 0, 0, zvs (UM) 9 (sX9_orders)), (181, 2, 0, 0, zvs (UM) 9 (sX9_wasLocked)), (171, 2, 0, 0, zvs (UM) 9 (sX9_rules)), (75, 3, 0, 0, zvs (UM) 9 (sX9_of)), (79, 3, 0, 0, zvs (UM) 9 (sX9_lockPart)), (184, 2, 0, 0, zvs (UM) 9 (sX9_fills)), (187, 2, 0, 0, zvs (UM) 9 (sX9_empties)), (190, 2, 0, 0, zvs (UM) 9 (sX9_locks))] [])
theorem YX9_works_ok : zYok (YX9_works) := zYok_of fX9_ok (zall (zcal_mono (zcalV (Y := YX9_works) (y := yX9_orders) (cc := cX9_orders) (nL := 4) (ret := none) (rm := rX9_orders) (mX9_orders) 96 1 9 (T := TX9) rfl wX9_96 ⟨by decide +kernel, by decide +kernel, by decide +kernel⟩ (by decide) ⟨Nat.le_of_ble_eq_true rfl, Nat.le_of_ble_eq_true rfl⟩) (fun _ _ _ _ h => zvs_P h)) (zall (zcal_mono (zcalV (Y := YX9_works) (y := yX9_wasLocked) (cc := cX9_wasLocked) (nL := 3) (ret := some .boolean) (rm := rX9_wasLocked) (mX9_wasLocked) 181 1 9 (T := TX9) rfl wX9_181 ⟨by decide +kernel, by decide +kernel, by decide +kernel⟩ (by decide) ⟨Nat.le_of_ble_eq_true rfl, Nat.le_of_ble_eq_true rfl⟩) (fun _ _ _ _ h => zvs_P h)) (zall (zcal_mono (zcalV (Y := YX9_works) (y := yX9_rules) (cc := cX9_rules) (nL := 7) (ret := some .int) (rm := rX9_rules) (mX9_rules) 171 1 9 (T := TX9) rfl wX9_171 ⟨by decide +kernel, by decide +kernel, by decide +kernel⟩ (by decide) ⟨Nat.le_of_ble_eq_true rfl, Nat.le_of_ble_eq_true rfl⟩) (fun _ _ _ _ h => zvs_P h)) (zall (zcal_mono (zcalV (Y := YX9_works) (y := yX9_of) (cc := cX9_of) (nL := 3) (ret := some .int) (rm := rX9_of) (mX9_of) 75 2 9 (T := TX9) rfl wX9_75 ⟨by decide +kernel, by decide +kernel, by decide +kernel⟩ (by decide) ⟨Nat.le_of_ble_eq_true rfl, Nat.le_of_ble_eq_true rfl⟩) (fun _ _ _ _ h => zvs_P h)) (zall (zcal_mono (zcalV (Y := YX9_works) (y := yX9_lockPart) (cc := cX9_lockPart) (nL := 3) (ret := some .int) (rm := rX9_lockPart) (mX9_lockPart) 79 2 9 (T := TX9) rfl wX9_79 ⟨by decide +kernel, by decide +kernel, by decide +kernel⟩ (by decide) ⟨Nat.le_of_ble_eq_true rfl, Nat.le_of_ble_eq_true rfl⟩) (fun _ _ _ _ h => zvs_P h)) (zall (zcal_mono (zcalV (Y := YX9_works) (y := yX9_fills) (cc := cX9_fills) (nL := 4) (ret := some .boolean) (rm := rX9_fills) (mX9_fills) 184 1 9 (T := TX9) rfl wX9_184 ⟨by decide +kernel, by decide +kernel, by decide +kernel⟩ (by decide) ⟨Nat.le_of_ble_eq_true rfl, Nat.le_of_ble_eq_true rfl⟩) (fun _ _ _ _ h => zvs_P h)) (zall (zcal_mono (zcalV (Y := YX9_works) (y := yX9_empties) (cc := cX9_empties) (nL := 4) (ret := none) (rm := rX9_empties) (mX9_empties) 187 1 9 (T := TX9) rfl wX9_187 ⟨by decide +kernel, by decide +kernel, by decide +kernel⟩ (by decide) ⟨Nat.le_of_ble_eq_true rfl, Nat.le_of_ble_eq_true rfl⟩) (fun _ _ _ _ h => zvs_P h)) (zall (zcal_mono (zcalV (Y := YX9_works) (y := yX9_locks) (cc := cX9_locks) (nL := 7) (ret := none) (rm := rX9_locks) (mX9_locks) 190 1 9 (T := TX9) rfl wX9_190 ⟨by decide +kernel, by decide +kernel, by decide +kernel⟩ (by decide) ⟨Nat.le_of_ble_eq_true rfl, Nat.le_of_ble_eq_true rfl⟩) (fun _ _ _ _ h => zvs_P h)) znil)))))))) znil

theorem lX9_works (ok : zO) (ex : zX) (F : zF) (n k : Nat) (cv : Nat → List Nat) (hk : k < 4) (hp : mWp F n k cv) (H : List Nat) (hH : H = mOrd F n (nI k) n) : ∀ (rest pre : List Nat) (G : zF) (w3 w4 : Option Value), H = pre ++ rest → G 1 = F 1 → (∀ i x, H[i]? = some x → G 7 i = nI x) → G 0 14 = nI H.length → ok none (mWl n k cv rest G) →
    zWP YX9_works ok ex 7 [some (.ref 0), some (.int (nI k)), some (.int (nI pre.length)), w3, w4] [] 0 0 G := by
  obtain ⟨hn, h0, hpa, a1, a2, hld, hcv⟩ := hp
  have hlen0 : H.length ≤ 16 := by
    rw [hH]
    exact Nat.le_trans (mOrd_len F n (nI k) n) hn
  intro rest
  induction rest with
  | nil =>
    intro pre G w3 w4 hP hG h7 h14 h
    rw [List.append_nil] at hP
    refine zat_ok YX9_works_ok (inv := zi1 7 (fun ls st kc ks G => zWP YX9_works ok ex 7 ls st kc ks G)) (zone fun _ _ _ _ _ h => h) kX9_works (List.all_eq_true.mp kX9_works_ok) 7 _ _ _ _ _ ?_
    refine And.intro (fun _ => h) (fun h1 => absurd ?_ h1)
    show G 0 14 ≤ nI pre.length
    rw [h14, hP]
    exact nI_le (Nat.le_refl _) (by rw [← hP]; omega)
  | cons x u ih =>
    intro pre G w3 w4 hP hG h7 h14 h
    have hlen : H.length = pre.length + (u.length + 1) := by rw [hP, List.length_append, List.length_cons]
    have hx : H[pre.length]? = some x := by rw [hP]; simp
    have hq : x ∈ mOrd F n (nI k) n := by
      rw [← hH]
      exact List.mem_of_getElem? hx
    have hm := (mOrd_mem F n (nI k) n x).mp hq
    have hh : x < 16 := by omega
    have hc := hcv x hq
    have hl := hm.2.2.2
    have hpl : (nI pre.length).toNatClampNeg = pre.length := nI_clamp (by omega)
    have hg : G 7 (nI pre.length).toNatClampNeg = nI x := by
      rw [hpl]
      exact h7 _ _ hx
    have ih := fun G w3 w4 => ih (pre ++ [x]) G w3 w4 (by rw [hP, List.append_cons])
    rw [List.length_append, List.length_singleton, ← nI_1] at ih
    have sm1 : mSm (zls 8 16 G (mRow G k (cv x))) F := ⟨congrFun hG 2, fun i _ => congrFun hG i⟩
    have ld1 : mLd (zls 8 16 G (mRow G k (cv x))) k := by
      obtain ⟨c, nb, m, e1, e2, e3, e4, e5, e6⟩ := hld
      have e9 : ∀ w, mLP (zls 8 16 G (mRow G k (cv x))) k w = mLP F k w := fun w => congrFun hG _
      exact ⟨c, nb, m, by rw [e9]; exact e1, e2, by rw [e9]; exact e3, e4, by rw [e9]; exact e5, e6⟩
    unfold mWl at h
    refine zat_ok YX9_works_ok (inv := zi1 7 (fun ls st kc ks G => zWP YX9_works ok ex 7 ls st kc ks G)) (zone fun _ _ _ _ _ h => h) kX9_works (List.all_eq_true.mp kX9_works_ok) 7 _ _ _ _ _ ?_
    refine And.intro (fun h1 => absurd ?_ (nI_ge (a := pre.length) (b := H.length) (by omega) (by omega))) (fun _ => ?_)
    · have h1 : G 0 14 ≤ nI pre.length := h1
      rw [h14] at h1
      exact h1
    refine Exists.intro (zix (x := nI pre.length) rfl (by omega) (by decide)) ?_
    rw [hg]
    refine ⟨n, hn, by rw [hG]; exact h0, ?_⟩
    refine And.intro (fun h1 => ?_) (fun h1 => ?_)
    · have h1 := (mWasB_iff G n x).mpr h1
      rw [if_pos h1] at h
      refine zjne1 ?_
      exact ih G _ _ hG h7 h14 h
    have h1 : ¬ mWasB G n x = true := fun h2 => h1 ((mWasB_iff G n x).mp h2)
    rw [if_neg h1] at h
    refine zjne0 ?_
    obtain ⟨r, t, hr, ht, r1, r2, r3, r4⟩ := mPw (L := cv x) hk (by rw [hG]; exact a1) (by rw [hG]; exact a2) (by unfold mOf; rw [hG]; exact hm.2.2.1) ((mLk_c hG x).trans hl)
    rw [r4] at h
    refine ⟨x, n, k, r, t, cv x, rfl, hh, hn, hk, by rw [hG]; exact h0, mCv_c hG hc, (mLk_c hG x).trans hl, r1, hr, r2, ht, r3, ?_⟩
    refine And.intro (fun h2 => ?_) (fun h2 => ?_)
    · have h2 : mRu G x k r t (cv x) ≤ 0 := h2
      rw [if_neg (Int32.not_lt.mpr h2)] at h
      refine ⟨x, 3, rfl, rfl, hh, by decide, ?_⟩
      refine And.intro (fun h3 => ?_) (fun h3 => ?_)
      · have h3 : ¬ mOf G x 3 = 0 := h3
        rw [if_neg h3] at h
        refine zjeq0 ?_
        refine zjne0 ?_
        refine ⟨k, 3, rfl, rfl, hk, by decide, ?_⟩
        refine And.intro (fun h4 => ?_) (fun h4 => ?_)
        · have h4 : ¬ mLP G k 3 = 1 := h4
          rw [if_neg h4] at h
          refine zjeq0 ?_
          obtain ⟨c, nb, m, e1, e2, e3, e4, e5, e6⟩ := id ld1
          have e8 := mFx_e e4 e5 e6
          have e9 : mFx (zls 8 16 G (mRow G k (cv x))) k = mFil (zls 8 16 G (mRow G k (cv x))) k m := by unfold mFx; rw [e8]
          have s3 := mSm_f hk sm1
          have l3 := mLd_f hk ld1
          refine ⟨k, m, rfl, hk, mB_8 e4 e6, e5, fun g => ?_, fun g => ?_⟩
          · have g : mLow (zls 8 16 G (mRow G k (cv x))) k := by unfold mLow; rw [e8]; exact g
            have e : mUp n k (cv x) x (zls 8 16 G (mRow G k (cv x))) = (zls 8 16 G (mRow G k (cv x))) := if_pos g
            rw [e] at h
            exact zjne0 h
          · have g : ¬ mLow (zls 8 16 G (mRow G k (cv x))) k := by unfold mLow; rw [e8]; exact g
            rw [e9] at s3 l3
            have e : mUp n k (cv x) x (zls 8 16 G (mRow G k (cv x))) = mLks (mFx (zls 8 16 G (mRow G k (cv x))) k) x n k (cv x) := if_neg g
            rw [e, e9] at h
            refine zjne1 ?_
            exact ⟨x, n, k, cv x, rfl, hh, hn, hk, (s3).1.trans h0, mCv_hi (s3).2 hc, (mLk_hi (s3).2 x).trans hl, h⟩
        · have h4 : mLP G k 3 = 1 := h4
          rw [if_pos h4] at h
          obtain ⟨d1, d2, d3, f1, f2, f3, f4, f5, f6⟩ := id ld1
          have f9 := mEx_e f1 f2 f3 f4 f5 f6
          have s4 := mSm_e hk sm1
          have l4 := mLd_e hk ld1
          rw [f9] at h s4 l4
          refine ⟨k, d1, d2, d3, rfl, hk, f1, f2, f3, f4, f5, f6, ?_⟩
          refine zjeq0 ?_
          obtain ⟨c, nb, m, e1, e2, e3, e4, e5, e6⟩ := id l4
          have e8 := mFx_e e4 e5 e6
          have e9 : mFx (mEmp (zls 8 16 G (mRow G k (cv x))) k d1 d2 d3) k = mFil (mEmp (zls 8 16 G (mRow G k (cv x))) k d1 d2 d3) k m := by unfold mFx; rw [e8]
          have s3 := mSm_f hk s4
          have l3 := mLd_f hk l4
          refine ⟨k, m, rfl, hk, mB_8 e4 e6, e5, fun g => ?_, fun g => ?_⟩
          · have g : mLow (mEmp (zls 8 16 G (mRow G k (cv x))) k d1 d2 d3) k := by unfold mLow; rw [e8]; exact g
            have e : mUp n k (cv x) x (mEmp (zls 8 16 G (mRow G k (cv x))) k d1 d2 d3) = (mEmp (zls 8 16 G (mRow G k (cv x))) k d1 d2 d3) := if_pos g
            rw [e] at h
            exact zjne0 h
          · have g : ¬ mLow (mEmp (zls 8 16 G (mRow G k (cv x))) k d1 d2 d3) k := by unfold mLow; rw [e8]; exact g
            rw [e9] at s3 l3
            have e : mUp n k (cv x) x (mEmp (zls 8 16 G (mRow G k (cv x))) k d1 d2 d3) = mLks (mFx (mEmp (zls 8 16 G (mRow G k (cv x))) k d1 d2 d3) k) x n k (cv x) := if_neg g
            rw [e, e9] at h
            refine zjne1 ?_
            exact ⟨x, n, k, cv x, rfl, hh, hn, hk, (s3).1.trans h0, mCv_hi (s3).2 hc, (mLk_hi (s3).2 x).trans hl, h⟩
      · have h3 : mOf G x 3 = 0 := h3
        rw [if_pos h3] at h
        refine zjeq1 ?_
        refine ⟨k, 3, rfl, rfl, hk, by decide, ?_⟩
        refine And.intro (fun h4 => ?_) (fun h4 => ?_)
        · have h4 : ¬ mLP G k 3 = 0 := h4
          rw [if_neg h4] at h
          refine zjne1 ?_
          refine zjeq1 ?_
          obtain ⟨d1, d2, d3, f1, f2, f3, f4, f5, f6⟩ := id ld1
          have f9 := mEx_e f1 f2 f3 f4 f5 f6
          have s4 := mSm_e hk sm1
          have l4 := mLd_e hk ld1
          rw [f9] at h s4 l4
          refine ⟨k, d1, d2, d3, rfl, hk, f1, f2, f3, f4, f5, f6, ?_⟩
          exact ⟨x, n, k, cv x, rfl, hh, hn, hk, (s4).1.trans h0, mCv_hi (s4).2 hc, (mLk_hi (s4).2 x).trans hl, h⟩
        · have h4 : mLP G k 3 = 0 := h4
          rw [if_pos h4] at h
          obtain ⟨c, nb, m, e1, e2, e3, e4, e5, e6⟩ := id ld1
          have e8 := mFx_e e4 e5 e6
          have e9 : mFx (zls 8 16 G (mRow G k (cv x))) k = mFil (zls 8 16 G (mRow G k (cv x))) k m := by unfold mFx; rw [e8]
          have s3 := mSm_f hk sm1
          have l3 := mLd_f hk ld1
          refine ⟨k, m, rfl, hk, mB_8 e4 e6, e5, fun g => ?_, fun g => ?_⟩
          · have g : mLow (zls 8 16 G (mRow G k (cv x))) k := by unfold mLow; rw [e8]; exact g
            have e : mLow G k := g
            rw [if_pos e] at h
            refine zjne0 ?_
            exact ih (zls 8 16 G (mRow G k (cv x))) _ _ hG h7 h14 h
          · have g : ¬ mLow (zls 8 16 G (mRow G k (cv x))) k := by unfold mLow; rw [e8]; exact g
            rw [e9] at s3 l3
            have e : ¬ mLow G k := g
            rw [if_neg e, e9] at h
            refine zjne1 ?_
            refine zjne1 ?_
            refine zjeq1 ?_
            obtain ⟨d1, d2, d3, f1, f2, f3, f4, f5, f6⟩ := id l3
            have f9 := mEx_e f1 f2 f3 f4 f5 f6
            have s4 := mSm_e hk s3
            have l4 := mLd_e hk l3
            rw [f9] at h s4 l4
            refine ⟨k, d1, d2, d3, rfl, hk, f1, f2, f3, f4, f5, f6, ?_⟩
            exact ⟨x, n, k, cv x, rfl, hh, hn, hk, (s4).1.trans h0, mCv_hi (s4).2 hc, (mLk_hi (s4).2 x).trans hl, h⟩
    · have h2 : ¬ mRu G x k r t (cv x) ≤ 0 := h2
      rw [if_pos (Int32.not_le.mp h2)] at h
      exact ih (zls 8 16 G (mRow G k (cv x))) _ _ hG h7 h14 h

theorem mX9_works : zMet (UM) yX9_works cX9_works 5 (none) rX9_works (sX9_works) := by
  refine zmet (Y := YX9_works) rfl (by decide +kernel) ?_
  intro av F ok ex h
  unfold sX9_works at h
  split at h
  · rename_i x
    refine zgo_ok (YX9_works_ok) (inv := zi1 7 (fun ls st kc ks G => zWP YX9_works ok ex 7 ls st kc ks G)) (zone fun _ _ _ _ _ h => h) kX9_works (List.all_eq_true.mp kX9_works_ok) 0 _ _ _ _ _ ?_
    obtain ⟨n, k, cv, rfl, hk, hp, h⟩ := h
    refine ⟨n, hp.1, hp.2.1, hp.2.2.1, ?_⟩
    refine lX9_works ok ex F n k cv hk hp _ rfl (mOrd F n (nI k) n) [] _ none none rfl rfl (fun i x hx => ?_) rfl h
    unfold zls
    rw [if_pos ⟨rfl, (List.getElem?_eq_some_iff.mp hx).1⟩, List.getD_eq_getElem?_getD, hx]
    rfl
  · exact h.elim

end ZM8
