/-! the reference locks a row -/
section ZM6
set_option maxRecDepth 20000
def mLa (to : Int32) (G : zF) (s : Nat) : zF := zup (zup (zup G 9 s 1) 1 (53 + 9 * s + 4) to) 1 (53 + 9 * s + 5) (G 1 0 + 1)
def mLb (G : zF) (s : Nat) : zF := zup (zup (zup (zup (mLa (-1) G s) 1 (53 + 9 * s + 6) (nI s)) 1 (53 + 9 * s + 7) 0) 1 (53 + 9 * s + 8) (G 1 0)) 0 18 (G 0 18 + 1)
def mLs (lv : Bool) (to : Int32) (G : zF) (s : Nat) : zF := match lv with
  | true => mLb G s
  | false => mLa to G s
def mLr (lv : Bool) (to : Int32) : List Nat → zF → zF
  | [], G => G
  | s :: t, G => mLr lv to t (mLs lv to G s)
def mLe (G : zF) (k r : Nat) : zF := zup (zup G 1 (25 + 7 * k + 5) (G 1 (25 + 7 * k + 5) + nI r)) 1 (25 + 7 * k + 6) (G 1 (25 + 7 * k + 6) + 1)
def mLv (F : zF) (h : Nat) : Bool := decide (mNx F h = if mOf F h 3 = 1 then 0 else F 1 1 - 1)
def mS2 (F : zF) (n k : Nat) (L : List Nat) : zF := mSpl (zls 8 16 F (mRow F k L)) n L (mRow F k L).length
def mLks (F : zF) (h n k : Nat) (L : List Nat) : zF := mLe (mLr (mLv F h) (mNx F h) (mRow F k L) (mS2 F n k L)) k (mRow F k L).length
def sX9_locks : zSp := fun as F ok _ => match as with
  | [.ref 0, .int x] => ∃ h n k L, x = nI h ∧ h < 16 ∧ n ≤ 16 ∧ k < 4 ∧ F 1 2 = nI n ∧ mCv F n h L ∧ mLk F h = nI k ∧ ok none (mLks F h n k L)
  | _ => False

theorem mLa_ne (to : Int32) (G : zF) (s : Nat) {c : Nat} (h1 : c ≠ 1) (h2 : c ≠ 9) : mLa to G s c = G c := by
  unfold mLa
  rw [zup_ne _ _ _ h1, zup_ne _ _ _ h1, zup_ne _ _ _ h2]
theorem mLb_ne (G : zF) (s : Nat) {c : Nat} (h1 : c ≠ 1) (h2 : c ≠ 9) (h3 : c ≠ 0) : mLb G s c = G c := by
  unfold mLb
  rw [zup_ne _ _ _ h3, zup_ne _ _ _ h1, zup_ne _ _ _ h1, zup_ne _ _ _ h1, mLa_ne _ _ _ h1 h2]
theorem mLs_ne (lv : Bool) (to : Int32) (G : zF) (s : Nat) {c : Nat} (h1 : c ≠ 1) (h2 : c ≠ 9) (h3 : c ≠ 0) : mLs lv to G s c = G c := by
  cases lv
  · exact mLa_ne to G s h1 h2
  · exact mLb_ne G s h1 h2 h3
theorem mLs_16 (lv : Bool) (to : Int32) (G : zF) (s : Nat) : mLs lv to G s 0 16 = G 0 16 := by
  cases lv
  · show mLa to G s 0 16 = G 0 16
    rw [mLa_ne _ _ _ (by decide) (by decide)]
  · show mLb G s 0 16 = G 0 16
    unfold mLb
    rw [zup_an _ _ _ (by decide), zup_ne _ _ _ (by decide), zup_ne _ _ _ (by decide), zup_ne _ _ _ (by decide), mLa_ne _ _ _ (by decide) (by decide)]

def kX9_locks : List zI := [
  (0, 1, .aload_n 0, [], 0),
  (1, 1, .iload_n 1, [], 0),
  (2, 3, .invokevirtual 136, [], 0),
  (5, 1, .istore_n 2, [], 0),
  (6, 1, .aload_n 0, [], 0),
  (7, 1, .iload_n 1, [], 0),
  (8, 3, .invokevirtual 165, [], 0),
  (11, 1, .istore_n 3, [], 0),
  (12, 1, .iload_n 3, [], 0),
  (13, 1, .aload_n 0, [], 0),
  (14, 1, .iload_n 1, [], 0),
  (15, 1, .iconst 3, [], 3),
  (16, 3, .invokevirtual 75, [], 0),
  (19, 1, .iconst 1, [], 1),
  (20, 3, .if_icmp .ne 7, [27], 0),
  (23, 1, .iconst 0, [], 0),
  (24, 3, .goto 11, [35], 0),
  (27, 1, .aload_n 0, [], 0),
  (28, 3, .getfield 9, [], 0),
  (31, 1, .iconst 1, [], 1),
  (32, 1, .iaload, [], 0),
  (33, 1, .iconst 1, [], 1),
  (34, 1, .isub, [], 0),
  (35, 3, .if_icmp .ne 7, [42], 0),
  (38, 1, .iconst 1, [], 1),
  (39, 3, .goto 4, [43], 0),
  (42, 1, .iconst 0, [], 0),
  (43, 2, .istore 4, [], 0),
  (45, 1, .aload_n 0, [], 0),
  (46, 1, .iload_n 1, [], 0),
  (47, 3, .invokevirtual 162, [], 0),
  (50, 1, .aload_n 0, [], 0),
  (51, 1, .iload_n 1, [], 0),
  (52, 1, .aload_n 0, [], 0),
  (53, 3, .getfield 159, [], 0),
  (56, 3, .invokevirtual 174, [], 0),
  (59, 1, .iconst 0, [], 0),
  (60, 2, .istore 5, [], 0),
  (62, 2, .iload 5, [], 0),
  (64, 1, .aload_n 0, [], 0),
  (65, 3, .getfield 159, [], 0),
  (68, 3, .if_icmp .ge 109, [177], 0),
  (71, 1, .aload_n 0, [], 0),
  (72, 3, .getfield 35, [], 0),
  (75, 2, .iload 5, [], 0),
  (77, 1, .iaload, [], 0),
  (78, 2, .istore 6, [], 0),
  (80, 1, .aload_n 0, [], 0),
  (81, 3, .getfield 38, [], 0),
  (84, 2, .iload 6, [], 0),
  (86, 1, .iconst 1, [], 1),
  (87, 1, .bastore, [], 0),
  (88, 1, .aload_n 0, [], 0),
  (89, 2, .iload 6, [], 0),
  (91, 1, .iconst 4, [], 4),
  (92, 2, .iload 4, [], 0),
  (94, 3, .ifCond .eq 7, [101], 0),
  (97, 1, .iconst (-1), [], (-1)),
  (98, 3, .goto 4, [102], 0),
  (101, 1, .iload_n 3, [], 0),
  (102, 3, .invokevirtual 106, [], 0),
  (105, 1, .aload_n 0, [], 0),
  (106, 2, .iload 6, [], 0),
  (108, 1, .iconst 5, [], 5),
  (109, 1, .aload_n 0, [], 0),
  (110, 3, .getfield 9, [], 0),
  (113, 1, .iconst 0, [], 0),
  (114, 1, .iaload, [], 0),
  (115, 1, .iconst 1, [], 1),
  (116, 1, .iadd, [], 0),
  (117, 3, .invokevirtual 106, [], 0),
  (120, 2, .iload 4, [], 0),
  (122, 3, .ifCond .ne 6, [128], 0),
  (125, 3, .goto 46, [171], 0),
  (128, 1, .aload_n 0, [], 0),
  (129, 2, .iload 6, [], 0),
  (131, 2, .bipush 6, [], 6),
  (133, 2, .iload 6, [], 0),
  (135, 3, .invokevirtual 106, [], 0),
  (138, 1, .aload_n 0, [], 0),
  (139, 2, .iload 6, [], 0),
  (141, 2, .bipush 7, [], 7),
  (143, 1, .iconst 0, [], 0),
  (144, 3, .invokevirtual 106, [], 0),
  (147, 1, .aload_n 0, [], 0),
  (148, 2, .iload 6, [], 0),
  (150, 2, .bipush 8, [], 8),
  (152, 1, .aload_n 0, [], 0),
  (153, 3, .getfield 9, [], 0),
  (156, 1, .iconst 0, [], 0),
  (157, 1, .iaload, [], 0),
  (158, 3, .invokevirtual 106, [], 0),
  (161, 1, .aload_n 0, [], 0),
  (162, 1, .dup, [], 0),
  (163, 3, .getfield 178, [], 0),
  (166, 1, .iconst 1, [], 1),
  (167, 1, .iadd, [], 0),
  (168, 3, .putfield 178, [], 0),
  (171, 3, .iinc 5 1, [], 1),
  (174, 3, .goto (-112), [62], 0),
  (177, 1, .aload_n 0, [], 0),
  (178, 3, .getfield 9, [], 0),
  (181, 2, .bipush 25, [], 25),
  (183, 2, .bipush 7, [], 7),
  (185, 1, .iload_n 2, [], 0),
  (186, 1, .imul, [], 0),
  (187, 1, .iadd, [], 0),
  (188, 1, .iconst 5, [], 5),
  (189, 1, .iadd, [], 0),
  (190, 1, .dup2, [], 0),
  (191, 1, .iaload, [], 0),
  (192, 1, .aload_n 0, [], 0),
  (193, 3, .getfield 159, [], 0),
  (196, 1, .iadd, [], 0),
  (197, 1, .iastore, [], 0),
  (198, 1, .aload_n 0, [], 0),
  (199, 3, .getfield 9, [], 0),
  (202, 2, .bipush 25, [], 25),
  (204, 2, .bipush 7, [], 7),
  (206, 1, .iload_n 2, [], 0),
  (207, 1, .imul, [], 0),
  (208, 1, .iadd, [], 0),
  (209, 2, .bipush 6, [], 6),
  (211, 1, .iadd, [], 0),
  (212, 1, .dup2, [], 0),
  (213, 1, .iaload, [], 0),
  (214, 1, .iconst 1, [], 1),
  (215, 1, .iadd, [], 0),
  (216, 1, .iastore, [], 0),
  (217, 1, .return_, [], 0)]
theorem kX9_locks_ok : kX9_locks.all (zck cX9_locks) = true := by decide +kernel

def rX9_locks : Room := { frames := 3, cells := 0, slots := 0, locals := 71 }
abbrev YX9_locks : zM := (RX9, cX9_locks, 7, none, rX9_locks, UM, zlk fX9, zcs [(136, 2, 0, 0, zvs (UM) 9 (sX9_lockOf)), (165, 2, 0, 0, zvs (UM) 9 (sX9_next)), (75, 3, 0, 0, zvs (UM) 9 (sX9_of)), (162, 2, 0, 0, zvs (UM) 9 (sX9_rows)), (174, 3, 0, 0, zvs (UM) 9 (sX9_splits)), (106, 4, 0, 0, zvs (UM) 9 (sX9_puts))] [])
theorem YX9_locks_ok : zYok (YX9_locks) := zYok_of fX9_ok (zall (zcal_mono (zcalV (Y := YX9_locks) (y := yX9_lockOf) (cc := cX9_lockOf) (nL := 2) (ret := some .int) (rm := rX9_lockOf) (mX9_lockOf) 136 1 9 (T := TX9) rfl wX9_136 ⟨by decide +kernel, by decide +kernel, by decide +kernel⟩ (by decide) ⟨Nat.le_of_ble_eq_true rfl, Nat.le_of_ble_eq_true rfl⟩) (fun _ _ _ _ h => zvs_P h)) (zall (zcal_mono (zcalV (Y := YX9_locks) (y := yX9_next) (cc := cX9_next) (nL := 2) (ret := some .int) (rm := rX9_next) (mX9_next) 165 1 9 (T := TX9) rfl wX9_165 ⟨by decide +kernel, by decide +kernel, by decide +kernel⟩ (by decide) ⟨Nat.le_of_ble_eq_true rfl, Nat.le_of_ble_eq_true rfl⟩) (fun _ _ _ _ h => zvs_P h)) (zall (zcal_mono (zcalV (Y := YX9_locks) (y := yX9_of) (cc := cX9_of) (nL := 3) (ret := some .int) (rm := rX9_of) (mX9_of) 75 2 9 (T := TX9) rfl wX9_75 ⟨by decide +kernel, by decide +kernel, by decide +kernel⟩ (by decide) ⟨Nat.le_of_ble_eq_true rfl, Nat.le_of_ble_eq_true rfl⟩) (fun _ _ _ _ h => zvs_P h)) (zall (zcal_mono (zcalV (Y := YX9_locks) (y := yX9_rows) (cc := cX9_rows) (nL := 7) (ret := none) (rm := rX9_rows) (mX9_rows) 162 1 9 (T := TX9) rfl wX9_162 ⟨by decide +kernel, by decide +kernel, by decide +kernel⟩ (by decide) ⟨Nat.le_of_ble_eq_true rfl, Nat.le_of_ble_eq_true rfl⟩) (fun _ _ _ _ h => zvs_P h)) (zall (zcal_mono (zcalV (Y := YX9_locks) (y := yX9_splits) (cc := cX9_splits) (nL := 7) (ret := none) (rm := rX9_splits) (mX9_splits) 174 2 9 (T := TX9) rfl wX9_174 ⟨by decide +kernel, by decide +kernel, by decide +kernel⟩ (by decide) ⟨Nat.le_of_ble_eq_true rfl, Nat.le_of_ble_eq_true rfl⟩) (fun _ _ _ _ h => zvs_P h)) (zall (zcal_mono (zcalV (Y := YX9_locks) (y := yX9_puts) (cc := cX9_puts) (nL := 4) (ret := none) (rm := rX9_puts) (mX9_puts) 106 3 9 (T := TX9) rfl wX9_106 ⟨by decide +kernel, by decide +kernel, by decide +kernel⟩ (by decide) ⟨Nat.le_of_ble_eq_true rfl, Nat.le_of_ble_eq_true rfl⟩) (fun _ _ _ _ h => zvs_P h)) znil)))))) znil

theorem lX9_locksfalse (ok : zO) (ex : zX) (t k : Nat) (to : Int32) (R : List Nat) (hk : k < 4) (hR : R.length ≤ 16) (hz : ∀ x, x ∈ R → x < 16) : ∀ (rest pre : List Nat) (G : zF) (w : Option Value), R = pre ++ rest → (∀ i x, R[i]? = some x → G 8 i = nI x) → G 0 16 = nI R.length → ok none (mLe (mLr false to rest G) k R.length) →
    zWP YX9_locks ok ex 62 [some (.ref 0), some (.int (nI t)), some (.int (nI k)), some (.int to), some (.int 0), some (.int (nI pre.length)), w] [] 0 0 G := by
  intro rest
  induction rest with
  | nil =>
    intro pre G w hP h8 h6 h
    rw [List.append_nil] at hP
    subst hP
    refine zat_ok YX9_locks_ok (inv := zi1 62 (fun ls st kc ks G => zWP YX9_locks ok ex 62 ls st kc ks G)) (zone fun _ _ _ _ _ h => h) kX9_locks (List.all_eq_true.mp kX9_locks_ok) 62 _ _ _ _ _ ?_
    refine And.intro (fun _ => ?_) (fun h1 => absurd (by show G 0 16 ≤ nI R.length; rw [h6]; exact nI_le (Nat.le_refl _) (by omega)) h1)
    refine Exists.intro (zix (ix_lp5 k) (by omega) (by decide)) ?_
    refine Exists.intro (zix (ix_lp5 k) (by omega) (by decide)) ?_
    refine Exists.intro (zix (ix_lp6 k) (by omega) (by decide)) ?_
    refine Exists.intro (zix (ix_lp6 k) (by omega) (by decide)) ?_
    refine zleaf ok h rfl ?_
    have e5 : (25 + 7 * nI k + 5).toNatClampNeg = 25 + 7 * k + 5 := zicl (ix_lp5 k) (by omega)
    have e6 : (25 + 7 * nI k + 6).toNatClampNeg = 25 + 7 * k + 6 := zicl (ix_lp6 k) (by omega)
    show mLe G k R.length = zup (zup G 1 (25 + 7 * nI k + 5).toNatClampNeg (G 1 (25 + 7 * nI k + 5).toNatClampNeg + G 0 16)) 1 (25 + 7 * nI k + 6).toNatClampNeg (zup G 1 (25 + 7 * nI k + 5).toNatClampNeg (G 1 (25 + 7 * nI k + 5).toNatClampNeg + G 0 16) 1 (25 + 7 * nI k + 6).toNatClampNeg + 1)
    rw [e5, e6, h6, zup_an _ _ _ (show 25 + 7 * k + 6 ≠ 25 + 7 * k + 5 by omega)]
    rfl
  | cons x u ih =>
    intro pre G w hP h8 h6 h
    have hlen : R.length = pre.length + (u.length + 1) := by rw [hP, List.length_append, List.length_cons]
    have hx : R[pre.length]? = some x := by rw [hP]; simp
    have h9 : x < 16 := hz x (List.mem_of_getElem? hx)
    have hp : (nI pre.length).toNatClampNeg = pre.length := nI_clamp (by omega)
    have hg : G 8 (nI pre.length).toNatClampNeg = nI x := by rw [hp]; exact h8 _ _ hx
    have hc : (nI x).toNatClampNeg = x := nI_clamp (by omega)
    have ih := ih (pre ++ [x]) (mLs false to G x) (some (.int (nI x))) (by rw [hP, List.append_cons]) (fun i y hy => by rw [mLs_ne _ _ _ _ (by decide) (by decide) (by decide)]; exact h8 i y hy) (by rw [mLs_16]; exact h6) h
    rw [List.length_append, List.length_singleton, ← nI_1] at ih
    have t1 : zup (zup G 9 x 1) 1 (53 + 9 * x + 4) to 1 0 = G 1 0 := by
      rw [zup_an _ _ _ (by omega), zup_ne _ _ _ (by decide)]
    have ih : zWP YX9_locks ok ex 62 [some (.ref 0), some (.int (nI t)), some (.int (nI k)), some (.int to), some (.int 0), some (.int (nI pre.length + 1)), some (.int (nI x))] [] 0 0 (mLa to G x) := ih
    unfold mLa at ih
    rw [← t1] at ih
    refine zat_ok YX9_locks_ok (inv := zi1 62 (fun ls st kc ks G => zWP YX9_locks ok ex 62 ls st kc ks G)) (zone fun _ _ _ _ _ h => h) kX9_locks (List.all_eq_true.mp kX9_locks_ok) 62 _ _ _ _ _ ?_
    refine And.intro (fun h1 => absurd ?_ (nI_ge (a := pre.length) (b := R.length) (by omega) (by omega))) (fun _ => ?_)
    · have h1 : G 0 16 ≤ nI pre.length := h1
      rw [h6] at h1
      exact h1
    refine Exists.intro (zix (x := nI pre.length) rfl (by omega) (by decide)) ?_
    rw [hg]
    refine Exists.intro (zix (x := nI x) rfl h9 (by decide)) ?_
    rw [hc]
    refine zjeq0 ?_
    refine ⟨x, 4, rfl, rfl, h9, by decide, ?_⟩
    refine Exists.intro (zix (k := 0) rfl (by decide) (by decide)) ?_
    refine ⟨x, 5, rfl, rfl, h9, by decide, ?_⟩
    refine zjne0 ?_
    exact ih

theorem lX9_lockstrue (ok : zO) (ex : zX) (t k : Nat) (to : Int32) (R : List Nat) (hk : k < 4) (hR : R.length ≤ 16) (hz : ∀ x, x ∈ R → x < 16) : ∀ (rest pre : List Nat) (G : zF) (w : Option Value), R = pre ++ rest → (∀ i x, R[i]? = some x → G 8 i = nI x) → G 0 16 = nI R.length → ok none (mLe (mLr true to rest G) k R.length) →
    zWP YX9_locks ok ex 62 [some (.ref 0), some (.int (nI t)), some (.int (nI k)), some (.int to), some (.int 1), some (.int (nI pre.length)), w] [] 0 0 G := by
  intro rest
  induction rest with
  | nil =>
    intro pre G w hP h8 h6 h
    rw [List.append_nil] at hP
    subst hP
    refine zat_ok YX9_locks_ok (inv := zi1 62 (fun ls st kc ks G => zWP YX9_locks ok ex 62 ls st kc ks G)) (zone fun _ _ _ _ _ h => h) kX9_locks (List.all_eq_true.mp kX9_locks_ok) 62 _ _ _ _ _ ?_
    refine And.intro (fun _ => ?_) (fun h1 => absurd (by show G 0 16 ≤ nI R.length; rw [h6]; exact nI_le (Nat.le_refl _) (by omega)) h1)
    refine Exists.intro (zix (ix_lp5 k) (by omega) (by decide)) ?_
    refine Exists.intro (zix (ix_lp5 k) (by omega) (by decide)) ?_
    refine Exists.intro (zix (ix_lp6 k) (by omega) (by decide)) ?_
    refine Exists.intro (zix (ix_lp6 k) (by omega) (by decide)) ?_
    refine zleaf ok h rfl ?_
    have e5 : (25 + 7 * nI k + 5).toNatClampNeg = 25 + 7 * k + 5 := zicl (ix_lp5 k) (by omega)
    have e6 : (25 + 7 * nI k + 6).toNatClampNeg = 25 + 7 * k + 6 := zicl (ix_lp6 k) (by omega)
    show mLe G k R.length = zup (zup G 1 (25 + 7 * nI k + 5).toNatClampNeg (G 1 (25 + 7 * nI k + 5).toNatClampNeg + G 0 16)) 1 (25 + 7 * nI k + 6).toNatClampNeg (zup G 1 (25 + 7 * nI k + 5).toNatClampNeg (G 1 (25 + 7 * nI k + 5).toNatClampNeg + G 0 16) 1 (25 + 7 * nI k + 6).toNatClampNeg + 1)
    rw [e5, e6, h6, zup_an _ _ _ (show 25 + 7 * k + 6 ≠ 25 + 7 * k + 5 by omega)]
    rfl
  | cons x u ih =>
    intro pre G w hP h8 h6 h
    have hlen : R.length = pre.length + (u.length + 1) := by rw [hP, List.length_append, List.length_cons]
    have hx : R[pre.length]? = some x := by rw [hP]; simp
    have h9 : x < 16 := hz x (List.mem_of_getElem? hx)
    have hp : (nI pre.length).toNatClampNeg = pre.length := nI_clamp (by omega)
    have hg : G 8 (nI pre.length).toNatClampNeg = nI x := by rw [hp]; exact h8 _ _ hx
    have hc : (nI x).toNatClampNeg = x := nI_clamp (by omega)
    have ih := ih (pre ++ [x]) (mLs true to G x) (some (.int (nI x))) (by rw [hP, List.append_cons]) (fun i y hy => by rw [mLs_ne _ _ _ _ (by decide) (by decide) (by decide)]; exact h8 i y hy) (by rw [mLs_16]; exact h6) h
    rw [List.length_append, List.length_singleton, ← nI_1] at ih
    have t1 : zup (zup G 9 x 1) 1 (53 + 9 * x + 4) (-1) 1 0 = G 1 0 := by
      rw [zup_an _ _ _ (by omega), zup_ne _ _ _ (by decide)]
    have ih : zWP YX9_locks ok ex 62 [some (.ref 0), some (.int (nI t)), some (.int (nI k)), some (.int to), some (.int 1), some (.int (nI pre.length + 1)), some (.int (nI x))] [] 0 0 (mLb G x) := ih
    unfold mLb mLa at ih
    rw [← t1] at ih
    have t2 : zup (zup (zup (zup (zup G 9 x 1) 1 (53 + 9 * x + 4) (-1)) 1 (53 + 9 * x + 5) (zup (zup G 9 x 1) 1 (53 + 9 * x + 4) (-1) 1 0 + 1)) 1 (53 + 9 * x + 6) (nI x)) 1 (53 + 9 * x + 7) 0 1 0 = zup (zup G 9 x 1) 1 (53 + 9 * x + 4) (-1) 1 0 := by
      rw [zup_an _ _ _ (by omega), zup_an _ _ _ (by omega), zup_an _ _ _ (by omega)]
    have t3 : zup (zup (zup (zup (zup (zup G 9 x 1) 1 (53 + 9 * x + 4) (-1)) 1 (53 + 9 * x + 5) (zup (zup G 9 x 1) 1 (53 + 9 * x + 4) (-1) 1 0 + 1)) 1 (53 + 9 * x + 6) (nI x)) 1 (53 + 9 * x + 7) 0) 1 (53 + 9 * x + 8) (zup (zup (zup (zup (zup G 9 x 1) 1 (53 + 9 * x + 4) (-1)) 1 (53 + 9 * x + 5) (zup (zup G 9 x 1) 1 (53 + 9 * x + 4) (-1) 1 0 + 1)) 1 (53 + 9 * x + 6) (nI x)) 1 (53 + 9 * x + 7) 0 1 0) 0 18 = G 0 18 := by
      rw [zup_ne _ _ _ (by decide), zup_ne _ _ _ (by decide), zup_ne _ _ _ (by decide), zup_ne _ _ _ (by decide), zup_ne _ _ _ (by decide), zup_ne _ _ _ (by decide)]
    refine zat_ok YX9_locks_ok (inv := zi1 62 (fun ls st kc ks G => zWP YX9_locks ok ex 62 ls st kc ks G)) (zone fun _ _ _ _ _ h => h) kX9_locks (List.all_eq_true.mp kX9_locks_ok) 62 _ _ _ _ _ ?_
    refine And.intro (fun h1 => absurd ?_ (nI_ge (a := pre.length) (b := R.length) (by omega) (by omega))) (fun _ => ?_)
    · have h1 : G 0 16 ≤ nI pre.length := h1
      rw [h6] at h1
      exact h1
    refine Exists.intro (zix (x := nI pre.length) rfl (by omega) (by decide)) ?_
    rw [hg]
    refine Exists.intro (zix (x := nI x) rfl h9 (by decide)) ?_
    rw [hc]
    refine zjeq1 ?_
    refine ⟨x, 4, rfl, rfl, h9, by decide, ?_⟩
    refine Exists.intro (zix (k := 0) rfl (by decide) (by decide)) ?_
    refine ⟨x, 5, rfl, rfl, h9, by decide, ?_⟩
    refine zjne1 ?_
    refine ⟨x, 6, rfl, rfl, h9, by decide, ?_⟩
    refine ⟨x, 7, rfl, rfl, h9, by decide, ?_⟩
    refine Exists.intro (zix (k := 0) rfl (by decide) (by decide)) ?_
    refine ⟨x, 8, rfl, rfl, h9, by decide, ?_⟩
    exact ih

theorem mX9_locks : zMet (UM) yX9_locks cX9_locks 7 (none) rX9_locks (sX9_locks) := by
  refine zmet (Y := YX9_locks) rfl (by decide +kernel) ?_
  intro av F ok ex h
  unfold sX9_locks at h
  split at h
  · rename_i x
    refine zgo_ok (YX9_locks_ok) (inv := zi1 62 (fun ls st kc ks G => zWP YX9_locks ok ex 62 ls st kc ks G)) (zone fun _ _ _ _ _ h => h) kX9_locks (List.all_eq_true.mp kX9_locks_ok) 0 _ _ _ _ _ ?_
    obtain ⟨t, n, k, L, rfl, ht, hn, hk, h0, c, h1, h⟩ := h
    have h5 : (mRow F k L).length ≤ 16 := Nat.le_trans (mRw_len F (mLP F k 0) L 0) (mCv_16 c hn)
    have h7 : ∀ x, x ∈ mRow F k L → x < 16 := fun x hx => Nat.lt_of_lt_of_le (mCv_lt c x (mRw_sub F (mLP F k 0) L 0 x hx)) hn
    have h8 : ∀ i x, (mRow F k L)[i]? = some x → mS2 F n k L 8 i = nI x := by
      intro i x hx
      unfold mS2
      rw [mSpl_ne _ _ _ _ (by decide)]
      unfold zls
      rw [if_pos ⟨rfl, (List.getElem?_eq_some_iff.mp hx).1⟩, List.getD_eq_getElem?_getD, hx]
      rfl
    have h6 : mS2 F n k L 0 16 = nI (mRow F k L).length := by
      unfold mS2
      rw [mSpl_ne _ _ _ _ (by decide)]
      rfl
    unfold mLks at h
    refine ⟨t, rfl, ht, ?_⟩
    refine ⟨t, rfl, ht, ?_⟩
    rw [h1]
    have fin : ∀ lv : Bool, mLv F t = lv → zWP YX9_locks ok ex 62 [some (.ref 0), some (.int (nI t)), some (.int (nI k)), some (.int (mNx F t)), some (.int (match lv with | true => 1 | false => 0)), some (.int 0), none] [] 0 0 (mS2 F n k L) := by
      intro lv hlv
      rw [hlv] at h
      cases lv
      · exact lX9_locksfalse ok ex t k (mNx F t) (mRow F k L) hk h5 h7 (mRow F k L) [] (mS2 F n k L) none rfl h8 h6 h
      · exact lX9_lockstrue ok ex t k (mNx F t) (mRow F k L) hk h5 h7 (mRow F k L) [] (mS2 F n k L) none rfl h8 h6 h
    refine ⟨t, 3, rfl, rfl, ht, by decide, ?_⟩
    have tail : ∀ {A : Prop}, A → A := fun h => h
    refine And.intro (fun g1 => ?_) (fun g1 => ?_)
    · have g1 : ¬ mOf F t 3 = 1 := g1
      refine Exists.intro (zix (k := 1) rfl (by decide) (by decide)) ?_
      refine And.intro (fun g2 => ?_) (fun g2 => ?_)
      · have g2 : ¬ mNx F t = F 1 1 - 1 := g2
        have fin := fin false (by unfold mLv; rw [if_neg g1]; exact decide_eq_false g2)
        refine ⟨t, n, k, L, rfl, ht, hn, hk, h0, c, h1, ?_⟩
        refine ⟨t, n, L, _, rfl, rfl, ht, hn, by omega, h0, mCv_c (F := F) rfl c, ?_⟩
        exact fin
      · have g2 : mNx F t = F 1 1 - 1 := g2
        have fin := fin true (by unfold mLv; rw [if_neg g1]; exact decide_eq_true g2)
        refine ⟨t, n, k, L, rfl, ht, hn, hk, h0, c, h1, ?_⟩
        refine ⟨t, n, L, _, rfl, rfl, ht, hn, by omega, h0, mCv_c (F := F) rfl c, ?_⟩
        exact fin
    · have g1 : mOf F t 3 = 1 := g1
      refine And.intro (fun g2 => ?_) (fun g2 => ?_)
      · have g2 : ¬ mNx F t = 0 := g2
        have fin := fin false (by unfold mLv; rw [if_pos g1]; exact decide_eq_false g2)
        refine ⟨t, n, k, L, rfl, ht, hn, hk, h0, c, h1, ?_⟩
        refine ⟨t, n, L, _, rfl, rfl, ht, hn, by omega, h0, mCv_c (F := F) rfl c, ?_⟩
        exact fin
      · have g2 : mNx F t = 0 := g2
        have fin := fin true (by unfold mLv; rw [if_pos g1]; exact decide_eq_true g2)
        refine ⟨t, n, k, L, rfl, ht, hn, hk, h0, c, h1, ?_⟩
        refine ⟨t, n, L, _, rfl, rfl, ht, hn, by omega, h0, mCv_c (F := F) rfl c, ?_⟩
        exact fin
  · exact h.elim

end ZM6
