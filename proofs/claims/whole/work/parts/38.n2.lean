/-! the reference's calls: pass, hindrance, reach -/
section ZN2
set_option maxRecDepth 20000
def sX9_pass : zSp := fun as F ok _ => match as with
  | [.ref 0, .int t] => zcn ((1 ≤ t ∧ t ≤ 40) ∧ F 1 0 + t ≤ 500) (zcn (2 ≤ F 1 1) (∃ u, ∃ S : Nat → zF, u ≤ 8 ∧ F 0 3 = nI u ∧ S 0 = zup (mKeep (mT F) u) 0 18 0 ∧ (∀ k, k < t.toNatClampNeg → ∃ n m cv, mTp (S k) n m cv ∧ S (k + 1) = mTick (S k) n m cv) ∧ ok (some (.int (S t.toNatClampNeg 0 18))) (S t.toNatClampNeg)) (ok (some (.int 0)) (zup (mT F) 0 0 2))) (ok (some (.int 0)) (zup (mT F) 0 0 1))
  | _ => False
def mHn (F : zF) (h k b : Nat) : Int32 := if mOf F h 3 = 0 then (if mLP F k 3 = 1 then 0 else if mWa F k < mLP F k 1 - mLP F k 1 / 4 * nI (mBit b) then 4 else 0) else if mWa F k < mLP F k 1 - mLP F k 1 / 4 * (if mLP F k 3 = 1 then mLP F k 2 else nI (mBit b)) then 4 else 0
def mHg (F : zF) (k : Nat) (L : List Nat) : zF := zls 8 16 (mT F) (mRow (mT F) k L)
def sX9_hindrance : zSp := fun as F ok _ => match as with
  | [.ref 0, .int s] => zcn (0 ≤ s ∧ s ≤ F 1 2 - 1) (∃ i, s = nI i ∧ i < 16 ∧ zcn (mOf F i 4 < 0) (ok (some (.int 0)) (zup (mT F) 0 0 2)) (∃ h n k r t L b, mOf F i 6 = nI h ∧ h < 16 ∧ n ≤ 16 ∧ k < 4 ∧ F 1 2 = nI n ∧ mCv F n h L ∧ mLk F h = nI k ∧ mOf F h 4 = nI r ∧ r < 5 ∧ mNx F h = nI t ∧ t < 5 ∧ (∀ j, j < 5 → j = r ∨ j = t ∨ j = k → ¬ F 1 (10 + 3 * j) = 0) ∧ b < 8 ∧ mLP F k 4 = nI b ∧ zcn (mRu (mT F) h k r t L ≤ 0) (ok (some (.int (mHn F h k b))) (mHg F k L)) (ok (some (.int (mRu (mT F) h k r t L))) (mHg F k L)))) (ok (some (.int 0)) (zup (mT F) 0 0 1))
  | _ => False
def mSr (F : zF) (h : Int32) : Nat → Nat
  | 0 => 0
  | k + 1 => mSr F h k + (if mOf F k 4 = h then 1 else 0)
def sX9_reach : zSp := fun as F ok _ => match as with
  | [.ref 0, .int r, .int w] => zcn (0 ≤ r ∧ r ≤ F 1 1 - 1) (zcn (0 ≤ w ∧ w ≤ 5) (∃ k n, r = nI k ∧ k < 5 ∧ n ≤ 16 ∧ F 1 2 = nI n ∧ ¬ F 1 (10 + 3 * k) = 0 ∧ (∀ j, j < 3 → w = nI j → ok (some (.int (F 1 (10 + 3 * k + j)))) (mT F)) ∧ (w = 3 → ok (some (.int (mLev F k))) (mT F)) ∧ (w = 4 → ok (some (.int (mDry F k))) (mT F)) ∧ (w = 5 → ok (some (.int (nI (mSr (mT F) r n)))) (mT F))) (ok (some (.int 0)) (zup (mT F) 0 0 2))) (ok (some (.int 0)) (zup (mT F) 0 0 1))
  | _ => False
theorem ix_rej (k j : Nat) : 10 + 3 * nI k + nI j = nI (10 + 3 * k + j) := by rw [ix_re, nI_add]

def kX9_pass : List zI := [
  (0, 1, .aload_n 0, [], 0),
  (1, 1, .iconst 0, [], 0),
  (2, 3, .putfield 42, [], 0),
  (5, 1, .iload_n 1, [], 0),
  (6, 1, .iconst 1, [], 1),
  (7, 2, .bipush 40, [], 40),
  (9, 3, .invokestatic 55, [], 0),
  (12, 3, .ifCond .eq 17, [29], 0),
  (15, 1, .aload_n 0, [], 0),
  (16, 3, .getfield 9, [], 0),
  (19, 1, .iconst 0, [], 0),
  (20, 1, .iaload, [], 0),
  (21, 1, .iload_n 1, [], 0),
  (22, 1, .iadd, [], 0),
  (23, 3, .sipush 500, [], 500),
  (26, 3, .if_icmp .le 9, [35], 0),
  (29, 1, .aload_n 0, [], 0),
  (30, 1, .iconst 1, [], 1),
  (31, 3, .invokevirtual 48, [], 0),
  (34, 1, .ireturn, [], 0),
  (35, 1, .aload_n 0, [], 0),
  (36, 3, .getfield 9, [], 0),
  (39, 1, .iconst 1, [], 1),
  (40, 1, .iaload, [], 0),
  (41, 1, .iconst 2, [], 2),
  (42, 3, .if_icmp .ge 9, [51], 0),
  (45, 1, .aload_n 0, [], 0),
  (46, 1, .iconst 2, [], 2),
  (47, 3, .invokevirtual 48, [], 0),
  (50, 1, .ireturn, [], 0),
  (51, 1, .aload_n 0, [], 0),
  (52, 3, .invokevirtual 59, [], 0),
  (55, 1, .aload_n 0, [], 0),
  (56, 1, .iconst 0, [], 0),
  (57, 3, .putfield 178, [], 0),
  (60, 1, .iconst 0, [], 0),
  (61, 1, .istore_n 2, [], 0),
  (62, 1, .iload_n 2, [], 0),
  (63, 1, .iload_n 1, [], 0),
  (64, 3, .if_icmp .ge 13, [77], 0),
  (67, 1, .aload_n 0, [], 0),
  (68, 3, .invokevirtual 196, [], 0),
  (71, 3, .iinc 2 1, [], 1),
  (74, 3, .goto (-12), [62], 0),
  (77, 1, .aload_n 0, [], 0),
  (78, 3, .getfield 178, [], 0),
  (81, 1, .ireturn, [], 0)]
theorem kX9_pass_ok : kX9_pass.all (zck cX9_pass) = true := by decide +kernel

def rX9_pass : Room := { frames := 6, cells := 0, slots := 0, locals := 144 }
abbrev YX9_pass : zM := (RX9, cX9_pass, 3, some .int, rX9_pass, UM, zlk fX9, zcs [(48, 2, 0, 0, zvs (UM) 9 (sX9_raises)), (59, 1, 0, 0, zvs (UM) 9 (sX9_changes)), (196, 1, 0, 0, zvs (UM) 9 (sX9_ticks))] [(55, 3, 0, 0, sX9_in)])
theorem YX9_pass_ok : zYok (YX9_pass) := zYok_of fX9_ok (zall (zcal_mono (zcalV (Y := YX9_pass) (y := yX9_raises) (cc := cX9_raises) (nL := 2) (ret := some .int) (rm := rX9_raises) (mX9_raises) 48 1 9 (T := TX9) rfl wX9_48 ⟨by decide +kernel, by decide +kernel, by decide +kernel⟩ (by decide) ⟨Nat.le_of_ble_eq_true rfl, Nat.le_of_ble_eq_true rfl⟩) (fun _ _ _ _ h => zvs_P h)) (zall (zcal_mono (zcalV (Y := YX9_pass) (y := yX9_changes) (cc := cX9_changes) (nL := 2) (ret := none) (rm := rX9_changes) (mX9_changes) 59 0 9 (T := TX9) rfl wX9_59 ⟨by decide +kernel, by decide +kernel, by decide +kernel⟩ (by decide) ⟨Nat.le_of_ble_eq_true rfl, Nat.le_of_ble_eq_true rfl⟩) (fun _ _ _ _ h => zvs_P h)) (zall (zcal_mono (zcalV (Y := YX9_pass) (y := yX9_ticks) (cc := cX9_ticks) (nL := 4) (ret := none) (rm := rX9_ticks) (mX9_ticks) 196 0 9 (T := TX9) rfl wX9_196 ⟨by decide +kernel, by decide +kernel, by decide +kernel⟩ (by decide) ⟨Nat.le_of_ble_eq_true rfl, Nat.le_of_ble_eq_true rfl⟩) (fun _ _ _ _ h => zvs_P h)) znil))) (zall (zcalS (Y := YX9_pass) (y := yX9_in) (cc := cX9_in) (nL := 3) (ret := some .boolean) (rm := rX9_in) (mX9_in) 55 3 wX9_55 ⟨by decide +kernel, by decide +kernel, by decide +kernel⟩ (by decide) ⟨Nat.le_of_ble_eq_true rfl, Nat.le_of_ble_eq_true rfl⟩) znil)

theorem lX9_pass (ok : zO) (ex : zX) (t : Int32) (S : Nat → zF) (h6 : ∀ k, k < t.toNatClampNeg → ∃ n m cv, mTp (S k) n m cv ∧ S (k + 1) = mTick (S k) n m cv) (h : ok (some (.int (S t.toNatClampNeg 0 18))) (S t.toNatClampNeg)) : ∀ (d k : Nat), k + d = t.toNatClampNeg → zWP YX9_pass ok ex 62 [some (.ref 0), some (.int t), some (.int (nI k))] [] 0 0 (S k) := by
  intro d
  induction d with
  | zero =>
    intro k hk
    have hk : k = t.toNatClampNeg := hk
    subst hk
    refine zat_ok YX9_pass_ok (inv := zi1 62 (fun ls st kc ks G => zWP YX9_pass ok ex 62 ls st kc ks G)) (zone fun _ _ _ _ _ h => h) kX9_pass (List.all_eq_true.mp kX9_pass_ok) 62 _ _ _ _ _ ?_
    exact And.intro (fun _ => h) (fun g => absurd (zcnt_ge t) g)
  | succ d ih =>
    intro k hk
    have ih := ih (k + 1) (by omega)
    obtain ⟨n, m, cv, h7, h8⟩ := h6 k (by omega)
    rw [← nI_1, h8] at ih
    refine zat_ok YX9_pass_ok (inv := zi1 62 (fun ls st kc ks G => zWP YX9_pass ok ex 62 ls st kc ks G)) (zone fun _ _ _ _ _ h => h) kX9_pass (List.all_eq_true.mp kX9_pass_ok) 62 _ _ _ _ _ ?_
    refine And.intro (fun g => absurd g (zcnt_lt (c := t) (k := k) (by omega))) (fun _ => ?_)
    exact ⟨n, m, cv, h7, ih⟩

theorem mX9_pass : zMet (UM) yX9_pass cX9_pass 3 (some .int) rX9_pass (sX9_pass) := by
  refine zmet (Y := YX9_pass) rfl (by decide +kernel) ?_
  intro av F ok ex h
  unfold sX9_pass at h
  split at h
  · rename_i t
    refine zgo_ok (YX9_pass_ok) (inv := zi1 62 (fun ls st kc ks G => zWP YX9_pass ok ex 62 ls st kc ks G)) (zone fun _ _ _ _ _ h => h) kX9_pass (List.all_eq_true.mp kX9_pass_ok) 0 _ _ _ _ _ ?_
    refine And.intro (fun h1 => ?_) (fun h1 => zjeq0 (h.2 fun g => h1 g.1))
    refine zjeq1 ?_
    refine Exists.intro (zix (k := 0) rfl (by decide) (by decide)) ?_
    refine And.intro (fun h2 => ?_) (fun h2 => h.2 fun g => h2 g.2)
    have h := h.1 ⟨h1, h2⟩
    refine Exists.intro (zix (k := 1) rfl (by decide) (by decide)) ?_
    refine And.intro (fun h3 => ?_) (fun h3 => h.2 h3)
    obtain ⟨u, S, hu, h4, h5, h6, h⟩ := h.1 h3
    refine ⟨u, hu, h4, ?_⟩
    have h7 := lX9_pass ok ex t S h6 h t.toNatClampNeg 0 (Nat.zero_add _)
    rw [h5] at h7
    exact h7
  · exact h.elim

def kX9_hindrance : List zI := [
  (0, 1, .aload_n 0, [], 0),
  (1, 1, .iconst 0, [], 0),
  (2, 3, .putfield 42, [], 0),
  (5, 1, .aload_n 0, [], 0),
  (6, 1, .iload_n 1, [], 0),
  (7, 3, .invokevirtual 133, [], 0),
  (10, 3, .ifCond .ne 9, [19], 0),
  (13, 1, .aload_n 0, [], 0),
  (14, 1, .iconst 1, [], 1),
  (15, 3, .invokevirtual 48, [], 0),
  (18, 1, .ireturn, [], 0),
  (19, 1, .aload_n 0, [], 0),
  (20, 1, .iload_n 1, [], 0),
  (21, 1, .iconst 4, [], 4),
  (22, 3, .invokevirtual 75, [], 0),
  (25, 3, .ifCond .ge 9, [34], 0),
  (28, 1, .aload_n 0, [], 0),
  (29, 1, .iconst 2, [], 2),
  (30, 3, .invokevirtual 48, [], 0),
  (33, 1, .ireturn, [], 0),
  (34, 1, .aload_n 0, [], 0),
  (35, 1, .iload_n 1, [], 0),
  (36, 2, .bipush 6, [], 6),
  (38, 3, .invokevirtual 75, [], 0),
  (41, 1, .istore_n 2, [], 0),
  (42, 1, .aload_n 0, [], 0),
  (43, 1, .iload_n 2, [], 0),
  (44, 3, .invokevirtual 171, [], 0),
  (47, 1, .istore_n 3, [], 0),
  (48, 1, .iload_n 3, [], 0),
  (49, 3, .ifCond .le 5, [54], 0),
  (52, 1, .iload_n 3, [], 0),
  (53, 1, .ireturn, [], 0),
  (54, 1, .aload_n 0, [], 0),
  (55, 1, .iload_n 2, [], 0),
  (56, 3, .invokevirtual 136, [], 0),
  (59, 2, .istore 4, [], 0),
  (61, 1, .aload_n 0, [], 0),
  (62, 2, .iload 4, [], 0),
  (64, 1, .iconst 3, [], 3),
  (65, 3, .invokevirtual 79, [], 0),
  (68, 1, .iconst 1, [], 1),
  (69, 3, .if_icmp .ne 7, [76], 0),
  (72, 1, .iconst 1, [], 1),
  (73, 3, .goto 4, [77], 0),
  (76, 1, .iconst 0, [], 0),
  (77, 2, .istore 5, [], 0),
  (79, 1, .aload_n 0, [], 0),
  (80, 1, .iload_n 2, [], 0),
  (81, 1, .iconst 3, [], 3),
  (82, 3, .invokevirtual 75, [], 0),
  (85, 3, .ifCond .ne 39, [124], 0),
  (88, 2, .iload 5, [], 0),
  (90, 3, .ifCond .ne 28, [118], 0),
  (93, 1, .aload_n 0, [], 0),
  (94, 2, .iload 4, [], 0),
  (96, 3, .invokevirtual 62, [], 0),
  (99, 1, .aload_n 0, [], 0),
  (100, 2, .iload 4, [], 0),
  (102, 1, .aload_n 0, [], 0),
  (103, 2, .iload 4, [], 0),
  (105, 1, .iconst 4, [], 4),
  (106, 3, .invokevirtual 79, [], 0),
  (109, 3, .invokestatic 85, [], 0),
  (112, 3, .invokevirtual 103, [], 0),
  (115, 3, .if_icmp .lt 7, [122], 0),
  (118, 1, .iconst 0, [], 0),
  (119, 3, .goto 4, [123], 0),
  (122, 1, .iconst 4, [], 4),
  (123, 1, .ireturn, [], 0),
  (124, 1, .aload_n 0, [], 0),
  (125, 2, .iload 4, [], 0),
  (127, 3, .invokevirtual 62, [], 0),
  (130, 1, .aload_n 0, [], 0),
  (131, 2, .iload 4, [], 0),
  (133, 2, .iload 5, [], 0),
  (135, 3, .ifCond .eq 13, [148], 0),
  (138, 1, .aload_n 0, [], 0),
  (139, 2, .iload 4, [], 0),
  (141, 1, .iconst 2, [], 2),
  (142, 3, .invokevirtual 79, [], 0),
  (145, 3, .goto 13, [158], 0),
  (148, 1, .aload_n 0, [], 0),
  (149, 2, .iload 4, [], 0),
  (151, 1, .iconst 4, [], 4),
  (152, 3, .invokevirtual 79, [], 0),
  (155, 3, .invokestatic 85, [], 0),
  (158, 3, .invokevirtual 103, [], 0),
  (161, 3, .if_icmp .lt 7, [168], 0),
  (164, 1, .iconst 0, [], 0),
  (165, 3, .goto 4, [169], 0),
  (168, 1, .iconst 4, [], 4),
  (169, 1, .ireturn, [], 0)]
theorem kX9_hindrance_ok : kX9_hindrance.all (zck cX9_hindrance) = true := by decide +kernel

def rX9_hindrance : Room := { frames := 4, cells := 0, slots := 0, locals := 97 }
abbrev YX9_hindrance : zM := (RX9, cX9_hindrance, 6, some .int, rX9_hindrance, UM, zlk fX9, zcs [(133, 2, 0, 0, zvs (UM) 9 (sX9_isShip)), (48, 2, 0, 0, zvs (UM) 9 (sX9_raises)), (75, 3, 0, 0, zvs (UM) 9 (sX9_of)), (171, 2, 0, 0, zvs (UM) 9 (sX9_rules)), (136, 2, 0, 0, zvs (UM) 9 (sX9_lockOf)), (79, 3, 0, 0, zvs (UM) 9 (sX9_lockPart)), (62, 2, 0, 0, zvs (UM) 9 (sX9_water)), (103, 3, 0, 0, zvs (UM) 9 (sX9_lacks))] [(85, 1, 0, 0, sJ6_bitCount_0f7a4)])
theorem YX9_hindrance_ok : zYok (YX9_hindrance) := zYok_of fX9_ok (zall (zcal_mono (zcalV (Y := YX9_hindrance) (y := yX9_isShip) (cc := cX9_isShip) (nL := 2) (ret := some .boolean) (rm := rX9_isShip) (mX9_isShip) 133 1 9 (T := TX9) rfl wX9_133 ⟨by decide +kernel, by decide +kernel, by decide +kernel⟩ (by decide) ⟨Nat.le_of_ble_eq_true rfl, Nat.le_of_ble_eq_true rfl⟩) (fun _ _ _ _ h => zvs_P h)) (zall (zcal_mono (zcalV (Y := YX9_hindrance) (y := yX9_raises) (cc := cX9_raises) (nL := 2) (ret := some .int) (rm := rX9_raises) (mX9_raises) 48 1 9 (T := TX9) rfl wX9_48 ⟨by decide +kernel, by decide +kernel, by decide +kernel⟩ (by decide) ⟨Nat.le_of_ble_eq_true rfl, Nat.le_of_ble_eq_true rfl⟩) (fun _ _ _ _ h => zvs_P h)) (zall (zcal_mono (zcalV (Y := YX9_hindrance) (y := yX9_of) (cc := cX9_of) (nL := 3) (ret := some .int) (rm := rX9_of) (mX9_of) 75 2 9 (T := TX9) rfl wX9_75 ⟨by decide +kernel, by decide +kernel, by decide +kernel⟩ (by decide) ⟨Nat.le_of_ble_eq_true rfl, Nat.le_of_ble_eq_true rfl⟩) (fun _ _ _ _ h => zvs_P h)) (zall (zcal_mono (zcalV (Y := YX9_hindrance) (y := yX9_rules) (cc := cX9_rules) (nL := 7) (ret := some .int) (rm := rX9_rules) (mX9_rules) 171 1 9 (T := TX9) rfl wX9_171 ⟨by decide +kernel, by decide +kernel, by decide +kernel⟩ (by decide) ⟨Nat.le_of_ble_eq_true rfl, Nat.le_of_ble_eq_true rfl⟩) (fun _ _ _ _ h => zvs_P h)) (zall (zcal_mono (zcalV (Y := YX9_hindrance) (y := yX9_lockOf) (cc := cX9_lockOf) (nL := 2) (ret := some .int) (rm := rX9_lockOf) (mX9_lockOf) 136 1 9 (T := TX9) rfl wX9_136 ⟨by decide +kernel, by decide +kernel, by decide +kernel⟩ (by decide) ⟨Nat.le_of_ble_eq_true rfl, Nat.le_of_ble_eq_true rfl⟩) (fun _ _ _ _ h => zvs_P h)) (zall (zcal_mono (zcalV (Y := YX9_hindrance) (y := yX9_lockPart) (cc := cX9_lockPart) (nL := 3) (ret := some .int) (rm := rX9_lockPart) (mX9_lockPart) 79 2 9 (T := TX9) rfl wX9_79 ⟨by decide +kernel, by decide +kernel, by decide +kernel⟩ (by decide) ⟨Nat.le_of_ble_eq_true rfl, Nat.le_of_ble_eq_true rfl⟩) (fun _ _ _ _ h => zvs_P h)) (zall (zcal_mono (zcalV (Y := YX9_hindrance) (y := yX9_water) (cc := cX9_water) (nL := 2) (ret := some .int) (rm := rX9_water) (mX9_water) 62 1 9 (T := TX9) rfl wX9_62 ⟨by decide +kernel, by decide +kernel, by decide +kernel⟩ (by decide) ⟨Nat.le_of_ble_eq_true rfl, Nat.le_of_ble_eq_true rfl⟩) (fun _ _ _ _ h => zvs_P h)) (zall (zcal_mono (zcalV (Y := YX9_hindrance) (y := yX9_lacks) (cc := cX9_lacks) (nL := 3) (ret := some .int) (rm := rX9_lacks) (mX9_lacks) 103 2 9 (T := TX9) rfl wX9_103 ⟨by decide +kernel, by decide +kernel, by decide +kernel⟩ (by decide) ⟨Nat.le_of_ble_eq_true rfl, Nat.le_of_ble_eq_true rfl⟩) (fun _ _ _ _ h => zvs_P h)) znil)))))))) (zall (zcalS (Y := YX9_hindrance) (y := yJ6_bitCount_0f7a4) (cc := cJ6_bitCount_0f7a4) (nL := 1) (ret := some .int) (rm := rJ6_bitCount_0f7a4) (mJ6_bitCount_0f7a4) 85 1 wX9_85 ⟨by decide +kernel, by decide +kernel, by decide +kernel⟩ (by decide) ⟨Nat.le_of_ble_eq_true rfl, Nat.le_of_ble_eq_true rfl⟩) znil)

theorem mX9_hindrance : zMet (UM) yX9_hindrance cX9_hindrance 6 (some .int) rX9_hindrance (sX9_hindrance) := by
  refine zmet (Y := YX9_hindrance) rfl (by decide +kernel) ?_
  intro av F ok ex h
  unfold sX9_hindrance at h
  split at h
  · rename_i s
    refine zgo_ok (YX9_hindrance_ok) zno kX9_hindrance (List.all_eq_true.mp kX9_hindrance_ok) 0 _ _ _ _ _ ?_
    refine And.intro (fun h1 => ?_) (fun h1 => zjne0 (h.2 h1))
    refine zjne1 ?_
    have h := h.1 h1
    obtain ⟨i, rfl, hi, h⟩ := h
    refine ⟨i, 4, rfl, rfl, hi, by decide, ?_⟩
    refine And.intro (fun h2 => ?_) (fun h2 => h.1 (Int32.not_le.mp h2))
    obtain ⟨x, n, k, r, t, L, b, h3, hx, hn, hk, h4, hc, h5, h6, hr, h7, ht, h8, hb, h9, h⟩ := h.2 (Int32.not_lt.mpr h2)
    refine ⟨i, 6, rfl, rfl, hi, by decide, ?_⟩
    refine ⟨x, n, k, r, t, L, h3, hx, hn, hk, h4, mCv_c (F := F) rfl hc, h5, h6, hr, h7, ht, h8, ?_⟩
    rw [show mOf (zup F 0 0 0) i 6 = nI x from h3]
    refine And.intro (fun g0 => ?_) (fun g0 => h.2 g0)
    have h := h.1 g0
    unfold mHn at h
    refine ⟨x, rfl, hx, ?_⟩
    refine ⟨k, 3, h5, rfl, hk, by decide, ?_⟩
    refine And.intro (fun f => ?_) (fun f => ?_)
    · have f : ¬ mLP F k 3 = 1 := f
      rw [if_neg f, if_neg f] at h
      refine ⟨x, 3, rfl, rfl, hx, by decide, ?_⟩
      refine And.intro (fun u => ?_) (fun u => ?_)
      · have u : ¬ mOf F x 3 = 0 := u
        rw [if_neg u] at h
        refine ⟨k, h5, by omega, ?_⟩
        refine zjeq0 ?_
        refine ⟨k, 4, h5, rfl, hk, by decide, ?_⟩
        refine ⟨b, hb, h9, ?_⟩
        refine ⟨k, h5, hk, ?_⟩
        refine And.intro (fun g => ?_) (fun g => ?_)
        · have g : mWa F k < mLP F k 1 - mLP F k 1 / 4 * nI (mBit b) := g
          rw [if_pos g] at h
          exact h
        · have g : ¬ mWa F k < mLP F k 1 - mLP F k 1 / 4 * nI (mBit b) := g
          rw [if_neg g] at h
          exact h
      · have u : mOf F x 3 = 0 := u
        rw [if_pos u] at h
        refine zjne0 ?_
        refine ⟨k, h5, by omega, ?_⟩
        refine ⟨k, 4, h5, rfl, hk, by decide, ?_⟩
        refine ⟨b, hb, h9, ?_⟩
        refine ⟨k, h5, hk, ?_⟩
        refine And.intro (fun g => ?_) (fun g => ?_)
        · have g : mWa F k < mLP F k 1 - mLP F k 1 / 4 * nI (mBit b) := g
          rw [if_pos g] at h
          exact h
        · have g : ¬ mWa F k < mLP F k 1 - mLP F k 1 / 4 * nI (mBit b) := g
          rw [if_neg g] at h
          exact h
    · have f : mLP F k 3 = 1 := f
      rw [if_pos f, if_pos f] at h
      refine ⟨x, 3, rfl, rfl, hx, by decide, ?_⟩
      refine And.intro (fun u => ?_) (fun u => ?_)
      · have u : ¬ mOf F x 3 = 0 := u
        rw [if_neg u] at h
        refine ⟨k, h5, by omega, ?_⟩
        refine zjeq1 ?_
        refine ⟨k, 2, h5, rfl, hk, by decide, ?_⟩
        refine ⟨k, h5, hk, ?_⟩
        refine And.intro (fun g => ?_) (fun g => ?_)
        · have g : mWa F k < mLP F k 1 - mLP F k 1 / 4 * mLP F k 2 := g
          rw [if_pos g] at h
          exact h
        · have g : ¬ mWa F k < mLP F k 1 - mLP F k 1 / 4 * mLP F k 2 := g
          rw [if_neg g] at h
          exact h
      · have u : mOf F x 3 = 0 := u
        rw [if_pos u] at h
        exact zjne1 h
  · exact h.elim

def kX9_reach : List zI := [
  (0, 1, .aload_n 0, [], 0),
  (1, 1, .iconst 0, [], 0),
  (2, 3, .putfield 42, [], 0),
  (5, 1, .aload_n 0, [], 0),
  (6, 1, .iload_n 1, [], 0),
  (7, 3, .invokevirtual 68, [], 0),
  (10, 3, .ifCond .ne 9, [19], 0),
  (13, 1, .aload_n 0, [], 0),
  (14, 1, .iconst 1, [], 1),
  (15, 3, .invokevirtual 48, [], 0),
  (18, 1, .ireturn, [], 0),
  (19, 1, .iload_n 2, [], 0),
  (20, 1, .iconst 0, [], 0),
  (21, 1, .iconst 5, [], 5),
  (22, 3, .invokestatic 55, [], 0),
  (25, 3, .ifCond .ne 9, [34], 0),
  (28, 1, .aload_n 0, [], 0),
  (29, 1, .iconst 2, [], 2),
  (30, 3, .invokevirtual 48, [], 0),
  (33, 1, .ireturn, [], 0),
  (34, 1, .iload_n 2, [], 0),
  (35, 1, .iconst 3, [], 3),
  (36, 3, .if_icmp .ge 17, [53], 0),
  (39, 1, .aload_n 0, [], 0),
  (40, 3, .getfield 9, [], 0),
  (43, 2, .bipush 10, [], 10),
  (45, 1, .iconst 3, [], 3),
  (46, 1, .iload_n 1, [], 0),
  (47, 1, .imul, [], 0),
  (48, 1, .iadd, [], 0),
  (49, 1, .iload_n 2, [], 0),
  (50, 1, .iadd, [], 0),
  (51, 1, .iaload, [], 0),
  (52, 1, .ireturn, [], 0),
  (53, 1, .iload_n 2, [], 0),
  (54, 1, .iconst 3, [], 3),
  (55, 3, .if_icmp .ne 9, [64], 0),
  (58, 1, .aload_n 0, [], 0),
  (59, 1, .iload_n 1, [], 0),
  (60, 3, .invokevirtual 65, [], 0),
  (63, 1, .ireturn, [], 0),
  (64, 1, .iload_n 2, [], 0),
  (65, 1, .iconst 4, [], 4),
  (66, 3, .if_icmp .ne 9, [75], 0),
  (69, 1, .aload_n 0, [], 0),
  (70, 1, .iload_n 1, [], 0),
  (71, 3, .invokevirtual 72, [], 0),
  (74, 1, .ireturn, [], 0),
  (75, 1, .iconst 0, [], 0),
  (76, 1, .istore_n 3, [], 0),
  (77, 1, .iconst 0, [], 0),
  (78, 2, .istore 4, [], 0),
  (80, 2, .iload 4, [], 0),
  (82, 1, .aload_n 0, [], 0),
  (83, 3, .getfield 9, [], 0),
  (86, 1, .iconst 2, [], 2),
  (87, 1, .iaload, [], 0),
  (88, 3, .if_icmp .ge 23, [111], 0),
  (91, 1, .aload_n 0, [], 0),
  (92, 2, .iload 4, [], 0),
  (94, 1, .iconst 4, [], 4),
  (95, 3, .invokevirtual 75, [], 0),
  (98, 1, .iload_n 1, [], 0),
  (99, 3, .if_icmp .ne 6, [105], 0),
  (102, 3, .iinc 3 1, [], 1),
  (105, 3, .iinc 4 1, [], 1),
  (108, 3, .goto (-28), [80], 0),
  (111, 1, .iload_n 3, [], 0),
  (112, 1, .ireturn, [], 0)]
theorem kX9_reach_ok : kX9_reach.all (zck cX9_reach) = true := by decide +kernel

def rX9_reach : Room := { frames := 3, cells := 0, slots := 0, locals := 64 }
abbrev YX9_reach : zM := (RX9, cX9_reach, 5, some .int, rX9_reach, UM, zlk fX9, zcs [(68, 2, 0, 0, zvs (UM) 9 (sX9_isReach)), (48, 2, 0, 0, zvs (UM) 9 (sX9_raises)), (65, 2, 0, 0, zvs (UM) 9 (sX9_level)), (72, 2, 0, 0, zvs (UM) 9 (sX9_dryness)), (75, 3, 0, 0, zvs (UM) 9 (sX9_of))] [(55, 3, 0, 0, sX9_in)])
theorem YX9_reach_ok : zYok (YX9_reach) := zYok_of fX9_ok (zall (zcal_mono (zcalV (Y := YX9_reach) (y := yX9_isReach) (cc := cX9_isReach) (nL := 2) (ret := some .boolean) (rm := rX9_isReach) (mX9_isReach) 68 1 9 (T := TX9) rfl wX9_68 ⟨by decide +kernel, by decide +kernel, by decide +kernel⟩ (by decide) ⟨Nat.le_of_ble_eq_true rfl, Nat.le_of_ble_eq_true rfl⟩) (fun _ _ _ _ h => zvs_P h)) (zall (zcal_mono (zcalV (Y := YX9_reach) (y := yX9_raises) (cc := cX9_raises) (nL := 2) (ret := some .int) (rm := rX9_raises) (mX9_raises) 48 1 9 (T := TX9) rfl wX9_48 ⟨by decide +kernel, by decide +kernel, by decide +kernel⟩ (by decide) ⟨Nat.le_of_ble_eq_true rfl, Nat.le_of_ble_eq_true rfl⟩) (fun _ _ _ _ h => zvs_P h)) (zall (zcal_mono (zcalV (Y := YX9_reach) (y := yX9_level) (cc := cX9_level) (nL := 2) (ret := some .int) (rm := rX9_level) (mX9_level) 65 1 9 (T := TX9) rfl wX9_65 ⟨by decide +kernel, by decide +kernel, by decide +kernel⟩ (by decide) ⟨Nat.le_of_ble_eq_true rfl, Nat.le_of_ble_eq_true rfl⟩) (fun _ _ _ _ h => zvs_P h)) (zall (zcal_mono (zcalV (Y := YX9_reach) (y := yX9_dryness) (cc := cX9_dryness) (nL := 3) (ret := some .int) (rm := rX9_dryness) (mX9_dryness) 72 1 9 (T := TX9) rfl wX9_72 ⟨by decide +kernel, by decide +kernel, by decide +kernel⟩ (by decide) ⟨Nat.le_of_ble_eq_true rfl, Nat.le_of_ble_eq_true rfl⟩) (fun _ _ _ _ h => zvs_P h)) (zall (zcal_mono (zcalV (Y := YX9_reach) (y := yX9_of) (cc := cX9_of) (nL := 3) (ret := some .int) (rm := rX9_of) (mX9_of) 75 2 9 (T := TX9) rfl wX9_75 ⟨by decide +kernel, by decide +kernel, by decide +kernel⟩ (by decide) ⟨Nat.le_of_ble_eq_true rfl, Nat.le_of_ble_eq_true rfl⟩) (fun _ _ _ _ h => zvs_P h)) znil))))) (zall (zcalS (Y := YX9_reach) (y := yX9_in) (cc := cX9_in) (nL := 3) (ret := some .boolean) (rm := rX9_in) (mX9_in) 55 3 wX9_55 ⟨by decide +kernel, by decide +kernel, by decide +kernel⟩ (by decide) ⟨Nat.le_of_ble_eq_true rfl, Nat.le_of_ble_eq_true rfl⟩) znil)

theorem lX9_reach (ok : zO) (ex : zX) (F : zF) (x w : Int32) (n : Nat) (hn : n ≤ 16) (h0 : F 1 2 = nI n) (h : ok (some (.int (nI (mSr F x n)))) F) : ∀ (d k : Nat), k + d = n → zWP YX9_reach ok ex 80 [some (.ref 0), some (.int x), some (.int w), some (.int (nI (mSr F x k))), some (.int (nI k))] [] 0 0 F := by
  intro d
  induction d with
  | zero =>
    intro k hk
    have hk : k = n := hk
    subst hk
    refine zat_ok YX9_reach_ok (inv := zi1 80 (fun ls st kc ks G => zWP YX9_reach ok ex 80 ls st kc ks G)) (zone fun _ _ _ _ _ h => h) kX9_reach (List.all_eq_true.mp kX9_reach_ok) 80 _ _ _ _ _ ?_
    refine Exists.intro (zix (k := 2) rfl (by decide) (by decide)) ?_
    refine And.intro (fun _ => h) (fun h1 => absurd ?_ h1)
    show F 1 2 ≤ nI k
    rw [h0]
    exact nI_le (Nat.le_refl _) (by omega)
  | succ d ih =>
    intro k hk
    refine zat_ok YX9_reach_ok (inv := zi1 80 (fun ls st kc ks G => zWP YX9_reach ok ex 80 ls st kc ks G)) (zone fun _ _ _ _ _ h => h) kX9_reach (List.all_eq_true.mp kX9_reach_ok) 80 _ _ _ _ _ ?_
    refine Exists.intro (zix (k := 2) rfl (by decide) (by decide)) ?_
    refine And.intro (fun h1 => absurd ?_ (nI_ge (a := k) (b := n) (by omega) (by omega))) (fun h1 => ?_)
    · have h1 : F 1 2 ≤ nI k := h1
      rw [h0] at h1
      exact h1
    refine ⟨k, 4, rfl, rfl, by omega, by decide, ?_⟩
    have ih := ih (k + 1) (by omega)
    rw [← nI_1 k] at ih
    refine And.intro (fun h2 => ?_) (fun h2 => ?_)
    · have h2 : ¬ mOf F k 4 = x := h2
      have h3 : mSr F x (k + 1) = mSr F x k := by
        show mSr F x k + (if mOf F k 4 = x then 1 else 0) = mSr F x k
        rw [if_neg h2, Nat.add_zero]
      rw [h3] at ih
      exact ih
    · have h2 : mOf F k 4 = x := h2
      have h3 : mSr F x (k + 1) = mSr F x k + 1 := by
        show mSr F x k + (if mOf F k 4 = x then 1 else 0) = mSr F x k + 1
        rw [if_pos h2]
      rw [h3, ← nI_1] at ih
      exact ih

theorem mX9_reach : zMet (UM) yX9_reach cX9_reach 5 (some .int) rX9_reach (sX9_reach) := by
  refine zmet (Y := YX9_reach) rfl (by decide +kernel) ?_
  intro av F ok ex h
  unfold sX9_reach at h
  split at h
  · rename_i r w
    refine zgo_ok (YX9_reach_ok) (inv := zi1 80 (fun ls st kc ks G => zWP YX9_reach ok ex 80 ls st kc ks G)) (zone fun _ _ _ _ _ h => h) kX9_reach (List.all_eq_true.mp kX9_reach_ok) 0 _ _ _ _ _ ?_
    refine And.intro (fun h1 => ?_) (fun h1 => zjne0 (h.2 h1))
    refine zjne1 ?_
    have h := h.1 h1
    refine And.intro (fun h2 => ?_) (fun h2 => zjne0 (h.2 h2))
    refine zjne1 ?_
    obtain ⟨k, n, rfl, hk, hn, h4, h5, gj, g3, g4, g5⟩ := h.1 h2
    refine And.intro (fun h6 => ?_) (fun h6 => ?_)
    · have h6 : (3 : Int32) ≤ w := h6
      refine And.intro (fun h7 => ?_) (fun h7 => ⟨k, rfl, hk, h5, g3 h7⟩)
      have h7 : ¬ w = 3 := h7
      refine And.intro (fun h8 => ?_) (fun h8 => ⟨k, rfl, hk, h5, g4 h8⟩)
      have h8 : ¬ w = 4 := h8
      have h9 : w = 5 := by
        have e3 : (3 : Int32).toInt = 3 := rfl
        have e4 : (4 : Int32).toInt = 4 := rfl
        have e5 : (5 : Int32).toInt = 5 := rfl
        have h10 := Int32.le_iff_toInt_le.mp h6
        have h11 := Int32.le_iff_toInt_le.mp h2.2
        have h12 : ¬ w.toInt = (3 : Int32).toInt := fun h => h7 (Int32.toInt_inj.mp h)
        have h13 : ¬ w.toInt = (4 : Int32).toInt := fun h => h8 (Int32.toInt_inj.mp h)
        exact Int32.toInt_inj.mp (by omega)
      exact lX9_reach ok ex (mT F) (nI k) w n hn h4 (g5 h9) n 0 (Nat.zero_add _)
    · have h6 : ¬ (3 : Int32) ≤ w := h6
      obtain ⟨j, hj, e⟩ : ∃ j, j < 3 ∧ w = nI j := z3_of h2.1 (by
        have e3 : (3 : Int32).toInt = 3 := rfl
        have e2 : (2 : Int32).toInt = 2 := rfl
        have h10 : ¬ (3 : Int32).toInt ≤ w.toInt := fun h => h6 (Int32.le_iff_toInt_le.mpr h)
        exact Int32.le_iff_toInt_le.mpr (by omega))
      have h7 : 10 + 3 * nI k + w = nI (10 + 3 * k + j) := by rw [e, ix_rej]
      have h8 : (10 + 3 * nI k + w).toNatClampNeg = 10 + 3 * k + j := zicl h7 (by omega)
      have h9 := gj j hj e
      rw [← h8] at h9
      exact Exists.intro (zix h7 (by omega) (by decide)) h9
  · exact h.elim

end ZN2
