/-! the reference's calls: priority, convoy, waiting, ship, lock -/
section ZN1
set_option maxRecDepth 20000
def sX9_priority : zSp := fun as F ok _ => match as with
  | [.ref 0, .int s] => zcn (0 ≤ s ∧ s ≤ F 1 2 - 1) (∃ i, s = nI i ∧ i < 16 ∧ zcn (mOf F i 4 < 0) (ok (some (.int 0)) (zup (mT F) 0 0 2)) (∃ h n, mOf F i 6 = nI h ∧ h < 16 ∧ n ≤ 16 ∧ F 1 2 = nI n ∧ ¬ F 1 3 = 0 ∧ ok (some (.int (mPr (mT F) n h))) (mT F))) (ok (some (.int 0)) (zup (mT F) 0 0 1))
  | _ => False
def sX9_convoy : zSp := fun as F ok _ => match as with
  | [.ref 0, .int s, .int x] => zcn (0 ≤ s ∧ s ≤ F 1 2 - 1) (∃ i n, s = nI i ∧ i < 16 ∧ n ≤ 16 ∧ F 1 2 = nI n ∧ zcn (0 ≤ x ∧ x ≤ nI (mSz (mT F) (mOf F i 6) n) - 1) (∃ t, t < 16 ∧ mOf F t 6 = mOf F i 6 ∧ mOf F t 7 = x ∧ (∀ j, j < t → ¬ (mOf F j 6 = mOf F i 6 ∧ mOf F j 7 = x)) ∧ ok (some (.int (nI t))) (mT F)) (ok (some (.int 0)) (zup (mT F) 0 0 2))) (ok (some (.int 0)) (zup (mT F) 0 0 1))
  | _ => False
def mOd (F : zF) (n : Nat) (l : Int32) : zF := zls 7 14 (mT F) (mOrd (mT F) n l n)
def sX9_waiting : zSp := fun as F ok _ => match as with
  | [.ref 0, .int l, .int x] => zcn (0 ≤ l ∧ l ≤ F 1 1 - 2) (∃ n, n ≤ 16 ∧ F 1 2 = nI n ∧ ¬ F 1 3 = 0 ∧ zcn (0 ≤ x ∧ x ≤ mOd F n l 0 14 - 1) (∃ j, x = nI j ∧ j < 16 ∧ ok (some (.int (mOd F n l 7 j))) (mOd F n l)) (ok (some (.int 0)) (zup (mOd F n l) 0 0 2))) (ok (some (.int 0)) (zup (mT F) 0 0 1))
  | _ => False
def sX9_ship : zSp := fun as F ok _ => match as with
  | [.ref 0, .int s, .int w] => zcn (0 ≤ s ∧ s ≤ F 1 2 - 1) (∃ i n, s = nI i ∧ i < 16 ∧ n ≤ 16 ∧ F 1 2 = nI n ∧ (w = 5 → ok (some (.int (mLk F i))) (mT F)) ∧ (w = 6 → ok (some (.int (mWd F i))) (mT F)) ∧ (w = 7 → ok (some (.int (mOf F i 6))) (mT F)) ∧ (w = 8 → ok (some (.int (nI (mSz (mT F) (mOf F i 6) n)))) (mT F)) ∧ (w = 9 → ok (some (.int (mOf F i 8))) (mT F)) ∧ (∀ j, j < 5 → w = nI j → ok (some (.int (mOf F i j))) (mT F)) ∧ (¬ (0 ≤ w ∧ w ≤ 9) → (ok (some (.int 0)) (zup (mT F) 0 0 2)))) (ok (some (.int 0)) (zup (mT F) 0 0 1))
  | _ => False
def sX9_lock : zSp := fun as F ok _ => match as with
  | [.ref 0, .int l, .int w] => zcn (0 ≤ l ∧ l ≤ F 1 1 - 2) (∃ k b n, l = nI k ∧ k < 4 ∧ b < 8 ∧ mLP F k 4 = nI b ∧ n ≤ 16 ∧ F 1 2 = nI n ∧ ¬ F 1 3 = 0 ∧ (w = 0 → ok (some (.int (mLP F k 0))) (mT F)) ∧ (w = 1 → ok (some (.int (mLP F k 1))) (mT F)) ∧ (w = 2 → ok (some (.int (mLP F k 2))) (mT F)) ∧ (w = 3 → ok (some (.int (mLP F k 1 / 4))) (mT F)) ∧ (w = 4 → ok (some (.int (mLP F k 3))) (mT F)) ∧ (w = 5 → ok (some (.int (nI (mBit b)))) (mT F)) ∧ (w = 6 → ok (some (.int (mHd F k))) (mT F)) ∧ (w = 7 → ok (some (.int (mOd F n l 0 14))) (mOd F n l)) ∧ (w = 8 → ok (some (.int (mLP F k 5))) (mT F)) ∧ (w = 9 → ok (some (.int (mLP F k 6))) (mT F)) ∧ (¬ (0 ≤ w ∧ w ≤ 9) → (ok (some (.int 0)) (zup (mT F) 0 0 2)))) (ok (some (.int 0)) (zup (mT F) 0 0 1))
  | _ => False
theorem zrng {w : Int32} (h : w.toInt < 0 ∨ 9 < w.toInt) : ¬ (0 ≤ w ∧ w ≤ 9) := by
  rintro ⟨h1, h2⟩
  have h1 := Int32.le_iff_toInt_le.mp h1
  have h2 := Int32.le_iff_toInt_le.mp h2
  have h3 : (0 : Int32).toInt = 0 := rfl
  have h4 : (9 : Int32).toInt = 9 := rfl
  omega
theorem zrng5 {w : Int32} (h : w.toInt < 5 ∨ 9 < w.toInt) (g : ¬ (0 ≤ w ∧ w ≤ 4)) : ¬ (0 ≤ w ∧ w ≤ 9) := by
  rintro ⟨h1, h2⟩
  have e4 : (4 : Int32).toInt = 4 := rfl
  have e9 : (9 : Int32).toInt = 9 := rfl
  refine g ⟨h1, Int32.le_iff_toInt_le.mpr ?_⟩
  have h2 := Int32.le_iff_toInt_le.mp h2
  omega
theorem z5_of {x : Int32} (h0 : 0 ≤ x) (h8 : x ≤ 4) : ∃ k, k < 5 ∧ x = nI k := by
  obtain ⟨j, hj, rfl⟩ := nI_of (Int32.not_lt.mpr h0)
  have h9 : nI j ≤ nI 4 := h8
  have h10 := (nI_leI hj (by decide)).mp h9
  exact ⟨j, by omega, rfl⟩

def kX9_priority : List zI := [
  (0, 1, .aload_n 0, [], 0),
  (1, 1, .iconst 0, [], 0),
  (2, 3, .putfield 42, [], 0),
  (5, 1, .aload_n 0, [], 0),
  (6, 1, .iload_n 1, [], 0),
  (7, 3, .invokevirtual 133, [], 0),
  (10, 3, .ifCond .ne 9, [19], 0),
  (13, 1, .aload_n 0, [], 0),
  (14, 1, .iconst 1, [], 1),
  (15, 3, .invokevirtual 48, [], 0),
  (18, 1, .ireturn, [], 0),
  (19, 1, .aload_n 0, [], 0),
  (20, 1, .iload_n 1, [], 0),
  (21, 1, .iconst 4, [], 4),
  (22, 3, .invokevirtual 75, [], 0),
  (25, 3, .ifCond .ge 11, [36], 0),
  (28, 1, .aload_n 0, [], 0),
  (29, 1, .iconst 2, [], 2),
  (30, 3, .invokevirtual 48, [], 0),
  (33, 3, .goto 14, [47], 0),
  (36, 1, .aload_n 0, [], 0),
  (37, 1, .aload_n 0, [], 0),
  (38, 1, .iload_n 1, [], 0),
  (39, 2, .bipush 6, [], 6),
  (41, 3, .invokevirtual 75, [], 0),
  (44, 3, .invokevirtual 156, [], 0),
  (47, 1, .ireturn, [], 0)]
theorem kX9_priority_ok : kX9_priority.all (zck cX9_priority) = true := by decide +kernel

def rX9_priority : Room := { frames := 3, cells := 0, slots := 0, locals := 66 }
abbrev YX9_priority : zM := (RX9, cX9_priority, 2, some .int, rX9_priority, UM, zlk fX9, zcs [(133, 2, 0, 0, zvs (UM) 9 (sX9_isShip)), (48, 2, 0, 0, zvs (UM) 9 (sX9_raises)), (75, 3, 0, 0, zvs (UM) 9 (sX9_of)), (156, 2, 0, 0, zvs (UM) 9 (sX9_priorityOf))] [])
theorem YX9_priority_ok : zYok (YX9_priority) := zYok_of fX9_ok (zall (zcal_mono (zcalV (Y := YX9_priority) (y := yX9_isShip) (cc := cX9_isShip) (nL := 2) (ret := some .boolean) (rm := rX9_isShip) (mX9_isShip) 133 1 9 (T := TX9) rfl wX9_133 ⟨by decide +kernel, by decide +kernel, by decide +kernel⟩ (by decide) ⟨Nat.le_of_ble_eq_true rfl, Nat.le_of_ble_eq_true rfl⟩) (fun _ _ _ _ h => zvs_P h)) (zall (zcal_mono (zcalV (Y := YX9_priority) (y := yX9_raises) (cc := cX9_raises) (nL := 2) (ret := some .int) (rm := rX9_raises) (mX9_raises) 48 1 9 (T := TX9) rfl wX9_48 ⟨by decide +kernel, by decide +kernel, by decide +kernel⟩ (by decide) ⟨Nat.le_of_ble_eq_true rfl, Nat.le_of_ble_eq_true rfl⟩) (fun _ _ _ _ h => zvs_P h)) (zall (zcal_mono (zcalV (Y := YX9_priority) (y := yX9_of) (cc := cX9_of) (nL := 3) (ret := some .int) (rm := rX9_of) (mX9_of) 75 2 9 (T := TX9) rfl wX9_75 ⟨by decide +kernel, by decide +kernel, by decide +kernel⟩ (by decide) ⟨Nat.le_of_ble_eq_true rfl, Nat.le_of_ble_eq_true rfl⟩) (fun _ _ _ _ h => zvs_P h)) (zall (zcal_mono (zcalV (Y := YX9_priority) (y := yX9_priorityOf) (cc := cX9_priorityOf) (nL := 4) (ret := some .int) (rm := rX9_priorityOf) (mX9_priorityOf) 156 1 9 (T := TX9) rfl wX9_156 ⟨by decide +kernel, by decide +kernel, by decide +kernel⟩ (by decide) ⟨Nat.le_of_ble_eq_true rfl, Nat.le_of_ble_eq_true rfl⟩) (fun _ _ _ _ h => zvs_P h)) znil)))) znil

theorem mX9_priority : zMet (UM) yX9_priority cX9_priority 2 (some .int) rX9_priority (sX9_priority) := by
  refine zmet (Y := YX9_priority) rfl (by decide +kernel) ?_
  intro av F ok ex h
  unfold sX9_priority at h
  split at h
  · rename_i s
    refine zgo_ok (YX9_priority_ok) zno kX9_priority (List.all_eq_true.mp kX9_priority_ok) 0 _ _ _ _ _ ?_
    refine And.intro (fun h1 => ?_) (fun h1 => zjne0 (h.2 h1))
    refine zjne1 ?_
    have h := h.1 h1
    obtain ⟨i, rfl, hi, h⟩ := h
    refine ⟨i, 4, rfl, rfl, hi, by decide, ?_⟩
    refine And.intro (fun h2 => ?_) (fun h2 => h.1 (Int32.not_le.mp h2))
    obtain ⟨t, n, h3, ht, hn, h4, h5, h⟩ := h.2 (Int32.not_lt.mpr h2)
    refine ⟨i, 6, rfl, rfl, hi, by decide, ?_⟩
    exact ⟨t, n, h3, ht, hn, h4, h5, h⟩
  · exact h.elim

def kX9_convoy : List zI := [
  (0, 1, .aload_n 0, [], 0),
  (1, 1, .iconst 0, [], 0),
  (2, 3, .putfield 42, [], 0),
  (5, 1, .aload_n 0, [], 0),
  (6, 1, .iload_n 1, [], 0),
  (7, 3, .invokevirtual 133, [], 0),
  (10, 3, .ifCond .ne 9, [19], 0),
  (13, 1, .aload_n 0, [], 0),
  (14, 1, .iconst 1, [], 1),
  (15, 3, .invokevirtual 48, [], 0),
  (18, 1, .ireturn, [], 0),
  (19, 1, .iload_n 2, [], 0),
  (20, 1, .iconst 0, [], 0),
  (21, 1, .aload_n 0, [], 0),
  (22, 1, .aload_n 0, [], 0),
  (23, 1, .iload_n 1, [], 0),
  (24, 2, .bipush 6, [], 6),
  (26, 3, .invokevirtual 75, [], 0),
  (29, 3, .invokevirtual 139, [], 0),
  (32, 1, .iconst 1, [], 1),
  (33, 1, .isub, [], 0),
  (34, 3, .invokestatic 55, [], 0),
  (37, 3, .ifCond .eq 18, [55], 0),
  (40, 1, .aload_n 0, [], 0),
  (41, 1, .aload_n 0, [], 0),
  (42, 1, .iload_n 1, [], 0),
  (43, 2, .bipush 6, [], 6),
  (45, 3, .invokevirtual 75, [], 0),
  (48, 1, .iload_n 2, [], 0),
  (49, 3, .invokevirtual 142, [], 0),
  (52, 3, .goto 8, [60], 0),
  (55, 1, .aload_n 0, [], 0),
  (56, 1, .iconst 2, [], 2),
  (57, 3, .invokevirtual 48, [], 0),
  (60, 1, .ireturn, [], 0)]
theorem kX9_convoy_ok : kX9_convoy.all (zck cX9_convoy) = true := by decide +kernel

def rX9_convoy : Room := { frames := 2, cells := 0, slots := 0, locals := 45 }
abbrev YX9_convoy : zM := (RX9, cX9_convoy, 3, some .int, rX9_convoy, UM, zlk fX9, zcs [(133, 2, 0, 0, zvs (UM) 9 (sX9_isShip)), (48, 2, 0, 0, zvs (UM) 9 (sX9_raises)), (75, 3, 0, 0, zvs (UM) 9 (sX9_of)), (139, 2, 0, 0, zvs (UM) 9 (sX9_sizeOf)), (142, 3, 0, 0, zvs (UM) 9 (sX9_shipIn))] [(55, 3, 0, 0, sX9_in)])
theorem YX9_convoy_ok : zYok (YX9_convoy) := zYok_of fX9_ok (zall (zcal_mono (zcalV (Y := YX9_convoy) (y := yX9_isShip) (cc := cX9_isShip) (nL := 2) (ret := some .boolean) (rm := rX9_isShip) (mX9_isShip) 133 1 9 (T := TX9) rfl wX9_133 ⟨by decide +kernel, by decide +kernel, by decide +kernel⟩ (by decide) ⟨Nat.le_of_ble_eq_true rfl, Nat.le_of_ble_eq_true rfl⟩) (fun _ _ _ _ h => zvs_P h)) (zall (zcal_mono (zcalV (Y := YX9_convoy) (y := yX9_raises) (cc := cX9_raises) (nL := 2) (ret := some .int) (rm := rX9_raises) (mX9_raises) 48 1 9 (T := TX9) rfl wX9_48 ⟨by decide +kernel, by decide +kernel, by decide +kernel⟩ (by decide) ⟨Nat.le_of_ble_eq_true rfl, Nat.le_of_ble_eq_true rfl⟩) (fun _ _ _ _ h => zvs_P h)) (zall (zcal_mono (zcalV (Y := YX9_convoy) (y := yX9_of) (cc := cX9_of) (nL := 3) (ret := some .int) (rm := rX9_of) (mX9_of) 75 2 9 (T := TX9) rfl wX9_75 ⟨by decide +kernel, by decide +kernel, by decide +kernel⟩ (by decide) ⟨Nat.le_of_ble_eq_true rfl, Nat.le_of_ble_eq_true rfl⟩) (fun _ _ _ _ h => zvs_P h)) (zall (zcal_mono (zcalV (Y := YX9_convoy) (y := yX9_sizeOf) (cc := cX9_sizeOf) (nL := 4) (ret := some .int) (rm := rX9_sizeOf) (mX9_sizeOf) 139 1 9 (T := TX9) rfl wX9_139 ⟨by decide +kernel, by decide +kernel, by decide +kernel⟩ (by decide) ⟨Nat.le_of_ble_eq_true rfl, Nat.le_of_ble_eq_true rfl⟩) (fun _ _ _ _ h => zvs_P h)) (zall (zcal_mono (zcalV (Y := YX9_convoy) (y := yX9_shipIn) (cc := cX9_shipIn) (nL := 4) (ret := some .int) (rm := rX9_shipIn) (mX9_shipIn) 142 2 9 (T := TX9) rfl wX9_142 ⟨by decide +kernel, by decide +kernel, by decide +kernel⟩ (by decide) ⟨Nat.le_of_ble_eq_true rfl, Nat.le_of_ble_eq_true rfl⟩) (fun _ _ _ _ h => zvs_P h)) znil))))) (zall (zcalS (Y := YX9_convoy) (y := yX9_in) (cc := cX9_in) (nL := 3) (ret := some .boolean) (rm := rX9_in) (mX9_in) 55 3 wX9_55 ⟨by decide +kernel, by decide +kernel, by decide +kernel⟩ (by decide) ⟨Nat.le_of_ble_eq_true rfl, Nat.le_of_ble_eq_true rfl⟩) znil)

theorem mX9_convoy : zMet (UM) yX9_convoy cX9_convoy 3 (some .int) rX9_convoy (sX9_convoy) := by
  refine zmet (Y := YX9_convoy) rfl (by decide +kernel) ?_
  intro av F ok ex h
  unfold sX9_convoy at h
  split at h
  · rename_i s x
    refine zgo_ok (YX9_convoy_ok) zno kX9_convoy (List.all_eq_true.mp kX9_convoy_ok) 0 _ _ _ _ _ ?_
    refine And.intro (fun h1 => ?_) (fun h1 => zjne0 (h.2 h1))
    refine zjne1 ?_
    have h := h.1 h1
    obtain ⟨i, n, rfl, hi, hn, h4, h⟩ := h
    refine ⟨i, 6, rfl, rfl, hi, by decide, ?_⟩
    refine ⟨n, hn, h4, ?_⟩
    refine And.intro (fun h2 => ?_) (fun h2 => zjeq0 (h.2 h2))
    refine zjeq1 ?_
    refine ⟨i, 6, rfl, rfl, hi, by decide, ?_⟩
    exact h.1 h2
  · exact h.elim

def kX9_waiting : List zI := [
  (0, 1, .aload_n 0, [], 0),
  (1, 1, .iconst 0, [], 0),
  (2, 3, .putfield 42, [], 0),
  (5, 1, .aload_n 0, [], 0),
  (6, 1, .iload_n 1, [], 0),
  (7, 3, .invokevirtual 90, [], 0),
  (10, 3, .ifCond .ne 9, [19], 0),
  (13, 1, .aload_n 0, [], 0),
  (14, 1, .iconst 1, [], 1),
  (15, 3, .invokevirtual 48, [], 0),
  (18, 1, .ireturn, [], 0),
  (19, 1, .aload_n 0, [], 0),
  (20, 1, .iload_n 1, [], 0),
  (21, 3, .invokevirtual 96, [], 0),
  (24, 1, .iload_n 2, [], 0),
  (25, 1, .iconst 0, [], 0),
  (26, 1, .aload_n 0, [], 0),
  (27, 3, .getfield 100, [], 0),
  (30, 1, .iconst 1, [], 1),
  (31, 1, .isub, [], 0),
  (32, 3, .invokestatic 55, [], 0),
  (35, 3, .ifCond .eq 12, [47], 0),
  (38, 1, .aload_n 0, [], 0),
  (39, 3, .getfield 32, [], 0),
  (42, 1, .iload_n 2, [], 0),
  (43, 1, .iaload, [], 0),
  (44, 3, .goto 8, [52], 0),
  (47, 1, .aload_n 0, [], 0),
  (48, 1, .iconst 2, [], 2),
  (49, 3, .invokevirtual 48, [], 0),
  (52, 1, .ireturn, [], 0)]
theorem kX9_waiting_ok : kX9_waiting.all (zck cX9_waiting) = true := by decide +kernel

def rX9_waiting : Room := { frames := 4, cells := 0, slots := 0, locals := 89 }
abbrev YX9_waiting : zM := (RX9, cX9_waiting, 3, some .int, rX9_waiting, UM, zlk fX9, zcs [(90, 2, 0, 0, zvs (UM) 9 (sX9_isLock)), (48, 2, 0, 0, zvs (UM) 9 (sX9_raises)), (96, 2, 0, 0, zvs (UM) 9 (sX9_orders))] [(55, 3, 0, 0, sX9_in)])
theorem YX9_waiting_ok : zYok (YX9_waiting) := zYok_of fX9_ok (zall (zcal_mono (zcalV (Y := YX9_waiting) (y := yX9_isLock) (cc := cX9_isLock) (nL := 2) (ret := some .boolean) (rm := rX9_isLock) (mX9_isLock) 90 1 9 (T := TX9) rfl wX9_90 ⟨by decide +kernel, by decide +kernel, by decide +kernel⟩ (by decide) ⟨Nat.le_of_ble_eq_true rfl, Nat.le_of_ble_eq_true rfl⟩) (fun _ _ _ _ h => zvs_P h)) (zall (zcal_mono (zcalV (Y := YX9_waiting) (y := yX9_raises) (cc := cX9_raises) (nL := 2) (ret := some .int) (rm := rX9_raises) (mX9_raises) 48 1 9 (T := TX9) rfl wX9_48 ⟨by decide +kernel, by decide +kernel, by decide +kernel⟩ (by decide) ⟨Nat.le_of_ble_eq_true rfl, Nat.le_of_ble_eq_true rfl⟩) (fun _ _ _ _ h => zvs_P h)) (zall (zcal_mono (zcalV (Y := YX9_waiting) (y := yX9_orders) (cc := cX9_orders) (nL := 4) (ret := none) (rm := rX9_orders) (mX9_orders) 96 1 9 (T := TX9) rfl wX9_96 ⟨by decide +kernel, by decide +kernel, by decide +kernel⟩ (by decide) ⟨Nat.le_of_ble_eq_true rfl, Nat.le_of_ble_eq_true rfl⟩) (fun _ _ _ _ h => zvs_P h)) znil))) (zall (zcalS (Y := YX9_waiting) (y := yX9_in) (cc := cX9_in) (nL := 3) (ret := some .boolean) (rm := rX9_in) (mX9_in) 55 3 wX9_55 ⟨by decide +kernel, by decide +kernel, by decide +kernel⟩ (by decide) ⟨Nat.le_of_ble_eq_true rfl, Nat.le_of_ble_eq_true rfl⟩) znil)

theorem mX9_waiting : zMet (UM) yX9_waiting cX9_waiting 3 (some .int) rX9_waiting (sX9_waiting) := by
  refine zmet (Y := YX9_waiting) rfl (by decide +kernel) ?_
  intro av F ok ex h
  unfold sX9_waiting at h
  split at h
  · rename_i l x
    refine zgo_ok (YX9_waiting_ok) zno kX9_waiting (List.all_eq_true.mp kX9_waiting_ok) 0 _ _ _ _ _ ?_
    refine And.intro (fun h1 => ?_) (fun h1 => zjne0 (h.2 h1))
    refine zjne1 ?_
    have h := h.1 h1
    obtain ⟨n, hn, h4, h5, h⟩ := h
    refine ⟨n, hn, h4, h5, ?_⟩
    refine And.intro (fun h2 => ?_) (fun h2 => zjeq0 (h.2 h2))
    refine zjeq1 ?_
    obtain ⟨j, h6, hj, h⟩ := h.1 h2
    refine Exists.intro (zix h6 hj (by decide)) ?_
    have h7 : x.toNatClampNeg = j := zicl h6 (by omega)
    rw [← h7] at h
    exact h
  · exact h.elim

def kX9_ship : List zI := [
  (0, 1, .aload_n 0, [], 0),
  (1, 1, .iconst 0, [], 0),
  (2, 3, .putfield 42, [], 0),
  (5, 1, .aload_n 0, [], 0),
  (6, 1, .iload_n 1, [], 0),
  (7, 3, .invokevirtual 133, [], 0),
  (10, 3, .ifCond .ne 9, [19], 0),
  (13, 1, .aload_n 0, [], 0),
  (14, 1, .iconst 1, [], 1),
  (15, 3, .invokevirtual 48, [], 0),
  (18, 1, .ireturn, [], 0),
  (19, 1, .iload_n 2, [], 0),
  (20, 36, .tableswitch 76 5 9 #[36, 42, 48, 56, 68], [96, 56, 62, 68, 76, 88], 0),
  (56, 1, .aload_n 0, [], 0),
  (57, 1, .iload_n 1, [], 0),
  (58, 3, .invokevirtual 136, [], 0),
  (61, 1, .ireturn, [], 0),
  (62, 1, .aload_n 0, [], 0),
  (63, 1, .iload_n 1, [], 0),
  (64, 3, .invokevirtual 150, [], 0),
  (67, 1, .ireturn, [], 0),
  (68, 1, .aload_n 0, [], 0),
  (69, 1, .iload_n 1, [], 0),
  (70, 2, .bipush 6, [], 6),
  (72, 3, .invokevirtual 75, [], 0),
  (75, 1, .ireturn, [], 0),
  (76, 1, .aload_n 0, [], 0),
  (77, 1, .aload_n 0, [], 0),
  (78, 1, .iload_n 1, [], 0),
  (79, 2, .bipush 6, [], 6),
  (81, 3, .invokevirtual 75, [], 0),
  (84, 3, .invokevirtual 139, [], 0),
  (87, 1, .ireturn, [], 0),
  (88, 1, .aload_n 0, [], 0),
  (89, 1, .iload_n 1, [], 0),
  (90, 2, .bipush 8, [], 8),
  (92, 3, .invokevirtual 75, [], 0),
  (95, 1, .ireturn, [], 0),
  (96, 1, .iload_n 2, [], 0),
  (97, 1, .iconst 0, [], 0),
  (98, 1, .iconst 4, [], 4),
  (99, 3, .invokestatic 55, [], 0),
  (102, 3, .ifCond .eq 12, [114], 0),
  (105, 1, .aload_n 0, [], 0),
  (106, 1, .iload_n 1, [], 0),
  (107, 1, .iload_n 2, [], 0),
  (108, 3, .invokevirtual 75, [], 0),
  (111, 3, .goto 8, [119], 0),
  (114, 1, .aload_n 0, [], 0),
  (115, 1, .iconst 2, [], 2),
  (116, 3, .invokevirtual 48, [], 0),
  (119, 1, .ireturn, [], 0)]
theorem kX9_ship_ok : kX9_ship.all (zck cX9_ship) = true := by decide +kernel

def rX9_ship : Room := { frames := 2, cells := 0, slots := 0, locals := 45 }
abbrev YX9_ship : zM := (RX9, cX9_ship, 3, some .int, rX9_ship, UM, zlk fX9, zcs [(133, 2, 0, 0, zvs (UM) 9 (sX9_isShip)), (48, 2, 0, 0, zvs (UM) 9 (sX9_raises)), (136, 2, 0, 0, zvs (UM) 9 (sX9_lockOf)), (150, 2, 0, 0, zvs (UM) 9 (sX9_waited)), (75, 3, 0, 0, zvs (UM) 9 (sX9_of)), (139, 2, 0, 0, zvs (UM) 9 (sX9_sizeOf))] [(55, 3, 0, 0, sX9_in)])
theorem YX9_ship_ok : zYok (YX9_ship) := zYok_of fX9_ok (zall (zcal_mono (zcalV (Y := YX9_ship) (y := yX9_isShip) (cc := cX9_isShip) (nL := 2) (ret := some .boolean) (rm := rX9_isShip) (mX9_isShip) 133 1 9 (T := TX9) rfl wX9_133 ⟨by decide +kernel, by decide +kernel, by decide +kernel⟩ (by decide) ⟨Nat.le_of_ble_eq_true rfl, Nat.le_of_ble_eq_true rfl⟩) (fun _ _ _ _ h => zvs_P h)) (zall (zcal_mono (zcalV (Y := YX9_ship) (y := yX9_raises) (cc := cX9_raises) (nL := 2) (ret := some .int) (rm := rX9_raises) (mX9_raises) 48 1 9 (T := TX9) rfl wX9_48 ⟨by decide +kernel, by decide +kernel, by decide +kernel⟩ (by decide) ⟨Nat.le_of_ble_eq_true rfl, Nat.le_of_ble_eq_true rfl⟩) (fun _ _ _ _ h => zvs_P h)) (zall (zcal_mono (zcalV (Y := YX9_ship) (y := yX9_lockOf) (cc := cX9_lockOf) (nL := 2) (ret := some .int) (rm := rX9_lockOf) (mX9_lockOf) 136 1 9 (T := TX9) rfl wX9_136 ⟨by decide +kernel, by decide +kernel, by decide +kernel⟩ (by decide) ⟨Nat.le_of_ble_eq_true rfl, Nat.le_of_ble_eq_true rfl⟩) (fun _ _ _ _ h => zvs_P h)) (zall (zcal_mono (zcalV (Y := YX9_ship) (y := yX9_waited) (cc := cX9_waited) (nL := 2) (ret := some .int) (rm := rX9_waited) (mX9_waited) 150 1 9 (T := TX9) rfl wX9_150 ⟨by decide +kernel, by decide +kernel, by decide +kernel⟩ (by decide) ⟨Nat.le_of_ble_eq_true rfl, Nat.le_of_ble_eq_true rfl⟩) (fun _ _ _ _ h => zvs_P h)) (zall (zcal_mono (zcalV (Y := YX9_ship) (y := yX9_of) (cc := cX9_of) (nL := 3) (ret := some .int) (rm := rX9_of) (mX9_of) 75 2 9 (T := TX9) rfl wX9_75 ⟨by decide +kernel, by decide +kernel, by decide +kernel⟩ (by decide) ⟨Nat.le_of_ble_eq_true rfl, Nat.le_of_ble_eq_true rfl⟩) (fun _ _ _ _ h => zvs_P h)) (zall (zcal_mono (zcalV (Y := YX9_ship) (y := yX9_sizeOf) (cc := cX9_sizeOf) (nL := 4) (ret := some .int) (rm := rX9_sizeOf) (mX9_sizeOf) 139 1 9 (T := TX9) rfl wX9_139 ⟨by decide +kernel, by decide +kernel, by decide +kernel⟩ (by decide) ⟨Nat.le_of_ble_eq_true rfl, Nat.le_of_ble_eq_true rfl⟩) (fun _ _ _ _ h => zvs_P h)) znil)))))) (zall (zcalS (Y := YX9_ship) (y := yX9_in) (cc := cX9_in) (nL := 3) (ret := some .boolean) (rm := rX9_in) (mX9_in) 55 3 wX9_55 ⟨by decide +kernel, by decide +kernel, by decide +kernel⟩ (by decide) ⟨Nat.le_of_ble_eq_true rfl, Nat.le_of_ble_eq_true rfl⟩) znil)

theorem mX9_ship : zMet (UM) yX9_ship cX9_ship 3 (some .int) rX9_ship (sX9_ship) := by
  refine zmet (Y := YX9_ship) rfl (by decide +kernel) ?_
  intro av F ok ex h
  unfold sX9_ship at h
  split at h
  · rename_i s w
    refine zgo_ok (YX9_ship_ok) zno kX9_ship (List.all_eq_true.mp kX9_ship_ok) 0 _ _ _ _ _ ?_
    refine And.intro (fun h1 => ?_) (fun h1 => zjne0 (h.2 h1))
    refine zjne1 ?_
    have h := h.1 h1
    obtain ⟨i, n, rfl, hi, hn, h4, g5, g6, g7, g8, g9, gj, gn⟩ := h
    refine And.intro (And.intro (fun h3 => ?_) (And.intro (fun h3 => ?_) (And.intro (fun h3 => ?_) (And.intro (fun h3 => ?_) (And.intro (fun h3 => ?_) trivial))))) (fun h3 => ?_)
    · exact ⟨i, rfl, hi, g5 h3⟩
    · exact ⟨i, rfl, hi, g6 h3⟩
    · exact ⟨i, 6, rfl, rfl, hi, by decide, g7 h3⟩
    · exact ⟨i, 6, rfl, rfl, hi, by decide, n, hn, h4, g8 h3⟩
    · exact ⟨i, 8, rfl, rfl, hi, by decide, g9 h3⟩
    · refine And.intro (fun h5 => ?_) (fun h5 => ?_)
      · refine zjeq1 ?_
        obtain ⟨j, hj, h6⟩ := z5_of h5.1 h5.2
        exact ⟨i, j, rfl, h6, hi, by omega, gj j hj h6⟩
      · refine zjeq0 ?_
        exact gn (zrng5 h3 h5)
  · exact h.elim

def kX9_lock : List zI := [
  (0, 1, .aload_n 0, [], 0),
  (1, 1, .iconst 0, [], 0),
  (2, 3, .putfield 42, [], 0),
  (5, 1, .aload_n 0, [], 0),
  (6, 1, .iload_n 1, [], 0),
  (7, 3, .invokevirtual 90, [], 0),
  (10, 3, .ifCond .ne 9, [19], 0),
  (13, 1, .aload_n 0, [], 0),
  (14, 1, .iconst 1, [], 1),
  (15, 3, .invokevirtual 48, [], 0),
  (18, 1, .ireturn, [], 0),
  (19, 1, .iload_n 2, [], 0),
  (20, 56, .tableswitch 111 0 9 #[56, 56, 56, 63, 69, 76, 86, 92, 102, 102], [131, 76, 76, 76, 83, 89, 96, 106, 112, 122, 122], 0),
  (76, 1, .aload_n 0, [], 0),
  (77, 1, .iload_n 1, [], 0),
  (78, 1, .iload_n 2, [], 0),
  (79, 3, .invokevirtual 79, [], 0),
  (82, 1, .ireturn, [], 0),
  (83, 1, .aload_n 0, [], 0),
  (84, 1, .iload_n 1, [], 0),
  (85, 3, .invokevirtual 82, [], 0),
  (88, 1, .ireturn, [], 0),
  (89, 1, .aload_n 0, [], 0),
  (90, 1, .iload_n 1, [], 0),
  (91, 1, .iconst 3, [], 3),
  (92, 3, .invokevirtual 79, [], 0),
  (95, 1, .ireturn, [], 0),
  (96, 1, .aload_n 0, [], 0),
  (97, 1, .iload_n 1, [], 0),
  (98, 1, .iconst 4, [], 4),
  (99, 3, .invokevirtual 79, [], 0),
  (102, 3, .invokestatic 85, [], 0),
  (105, 1, .ireturn, [], 0),
  (106, 1, .aload_n 0, [], 0),
  (107, 1, .iload_n 1, [], 0),
  (108, 3, .invokevirtual 93, [], 0),
  (111, 1, .ireturn, [], 0),
  (112, 1, .aload_n 0, [], 0),
  (113, 1, .iload_n 1, [], 0),
  (114, 3, .invokevirtual 96, [], 0),
  (117, 1, .aload_n 0, [], 0),
  (118, 3, .getfield 100, [], 0),
  (121, 1, .ireturn, [], 0),
  (122, 1, .aload_n 0, [], 0),
  (123, 1, .iload_n 1, [], 0),
  (124, 1, .iload_n 2, [], 0),
  (125, 1, .iconst 3, [], 3),
  (126, 1, .isub, [], 0),
  (127, 3, .invokevirtual 79, [], 0),
  (130, 1, .ireturn, [], 0),
  (131, 1, .aload_n 0, [], 0),
  (132, 1, .iconst 2, [], 2),
  (133, 3, .invokevirtual 48, [], 0),
  (136, 1, .ireturn, [], 0)]
theorem kX9_lock_ok : kX9_lock.all (zck cX9_lock) = true := by decide +kernel

def rX9_lock : Room := { frames := 4, cells := 0, slots := 0, locals := 89 }
abbrev YX9_lock : zM := (RX9, cX9_lock, 3, some .int, rX9_lock, UM, zlk fX9, zcs [(90, 2, 0, 0, zvs (UM) 9 (sX9_isLock)), (48, 2, 0, 0, zvs (UM) 9 (sX9_raises)), (79, 3, 0, 0, zvs (UM) 9 (sX9_lockPart)), (82, 2, 0, 0, zvs (UM) 9 (sX9_quarter)), (93, 2, 0, 0, zvs (UM) 9 (sX9_held)), (96, 2, 0, 0, zvs (UM) 9 (sX9_orders))] [(85, 1, 0, 0, sJ6_bitCount_0f7a4)])
theorem YX9_lock_ok : zYok (YX9_lock) := zYok_of fX9_ok (zall (zcal_mono (zcalV (Y := YX9_lock) (y := yX9_isLock) (cc := cX9_isLock) (nL := 2) (ret := some .boolean) (rm := rX9_isLock) (mX9_isLock) 90 1 9 (T := TX9) rfl wX9_90 ⟨by decide +kernel, by decide +kernel, by decide +kernel⟩ (by decide) ⟨Nat.le_of_ble_eq_true rfl, Nat.le_of_ble_eq_true rfl⟩) (fun _ _ _ _ h => zvs_P h)) (zall (zcal_mono (zcalV (Y := YX9_lock) (y := yX9_raises) (cc := cX9_raises) (nL := 2) (ret := some .int) (rm := rX9_raises) (mX9_raises) 48 1 9 (T := TX9) rfl wX9_48 ⟨by decide +kernel, by decide +kernel, by decide +kernel⟩ (by decide) ⟨Nat.le_of_ble_eq_true rfl, Nat.le_of_ble_eq_true rfl⟩) (fun _ _ _ _ h => zvs_P h)) (zall (zcal_mono (zcalV (Y := YX9_lock) (y := yX9_lockPart) (cc := cX9_lockPart) (nL := 3) (ret := some .int) (rm := rX9_lockPart) (mX9_lockPart) 79 2 9 (T := TX9) rfl wX9_79 ⟨by decide +kernel, by decide +kernel, by decide +kernel⟩ (by decide) ⟨Nat.le_of_ble_eq_true rfl, Nat.le_of_ble_eq_true rfl⟩) (fun _ _ _ _ h => zvs_P h)) (zall (zcal_mono (zcalV (Y := YX9_lock) (y := yX9_quarter) (cc := cX9_quarter) (nL := 2) (ret := some .int) (rm := rX9_quarter) (mX9_quarter) 82 1 9 (T := TX9) rfl wX9_82 ⟨by decide +kernel, by decide +kernel, by decide +kernel⟩ (by decide) ⟨Nat.le_of_ble_eq_true rfl, Nat.le_of_ble_eq_true rfl⟩) (fun _ _ _ _ h => zvs_P h)) (zall (zcal_mono (zcalV (Y := YX9_lock) (y := yX9_held) (cc := cX9_held) (nL := 2) (ret := some .int) (rm := rX9_held) (mX9_held) 93 1 9 (T := TX9) rfl wX9_93 ⟨by decide +kernel, by decide +kernel, by decide +kernel⟩ (by decide) ⟨Nat.le_of_ble_eq_true rfl, Nat.le_of_ble_eq_true rfl⟩) (fun _ _ _ _ h => zvs_P h)) (zall (zcal_mono (zcalV (Y := YX9_lock) (y := yX9_orders) (cc := cX9_orders) (nL := 4) (ret := none) (rm := rX9_orders) (mX9_orders) 96 1 9 (T := TX9) rfl wX9_96 ⟨by decide +kernel, by decide +kernel, by decide +kernel⟩ (by decide) ⟨Nat.le_of_ble_eq_true rfl, Nat.le_of_ble_eq_true rfl⟩) (fun _ _ _ _ h => zvs_P h)) znil)))))) (zall (zcalS (Y := YX9_lock) (y := yJ6_bitCount_0f7a4) (cc := cJ6_bitCount_0f7a4) (nL := 1) (ret := some .int) (rm := rJ6_bitCount_0f7a4) (mJ6_bitCount_0f7a4) 85 1 wX9_85 ⟨by decide +kernel, by decide +kernel, by decide +kernel⟩ (by decide) ⟨Nat.le_of_ble_eq_true rfl, Nat.le_of_ble_eq_true rfl⟩) znil)

theorem mX9_lock : zMet (UM) yX9_lock cX9_lock 3 (some .int) rX9_lock (sX9_lock) := by
  refine zmet (Y := YX9_lock) rfl (by decide +kernel) ?_
  intro av F ok ex h
  unfold sX9_lock at h
  split at h
  · rename_i l w
    refine zgo_ok (YX9_lock_ok) zno kX9_lock (List.all_eq_true.mp kX9_lock_ok) 0 _ _ _ _ _ ?_
    refine And.intro (fun h1 => ?_) (fun h1 => zjne0 (h.2 h1))
    refine zjne1 ?_
    have h := h.1 h1
    obtain ⟨k, b, n, rfl, hk, hb, h4, hn, h5, h6, g0, g1, g2, g3, g4, g5, g6, g7, g8, g9, gn⟩ := h
    refine And.intro (And.intro (fun h3 => ?_) (And.intro (fun h3 => ?_) (And.intro (fun h3 => ?_) (And.intro (fun h3 => ?_) (And.intro (fun h3 => ?_) (And.intro (fun h3 => ?_) (And.intro (fun h3 => ?_) (And.intro (fun h3 => ?_) (And.intro (fun h3 => ?_) (And.intro (fun h3 => ?_) trivial)))))))))) (fun h3 => gn (zrng h3))
    · exact ⟨k, 0, rfl, h3, hk, by decide, g0 h3⟩
    · exact ⟨k, 1, rfl, h3, hk, by decide, g1 h3⟩
    · exact ⟨k, 2, rfl, h3, hk, by decide, g2 h3⟩
    · exact ⟨k, rfl, hk, g3 h3⟩
    · exact ⟨k, 3, rfl, rfl, hk, by decide, g4 h3⟩
    · exact ⟨k, 4, rfl, rfl, hk, by decide, b, hb, h4, g5 h3⟩
    · exact ⟨k, rfl, hk, ⟨b, hb, h4⟩, g6 h3⟩
    · exact ⟨n, hn, h5, h6, g7 h3⟩
    · have h7 : w = 8 := h3
      exact ⟨k, 5, rfl, by rw [h7]; rfl, hk, by decide, g8 h3⟩
    · have h7 : w = 9 := h3
      exact ⟨k, 6, rfl, by rw [h7]; rfl, hk, by decide, g9 h3⟩
  · exact h.elim

end ZN1
