/-! the reference's calls: set, addShip, append, save, restore, undo -/
section ZN0
set_option maxRecDepth 20000
def zcn (c A B : Prop) : Prop := (c → A) ∧ (¬ c → B)
/-- k numbers of cell b from o on, in cell a -/
def mCp (F : zF) (a b o k : Nat) : zF := fun c i => if c = a ∧ i < k then F b (o + i) else F c i
theorem mCp_0 (F : zF) (a b o : Nat) : mCp F a b o 0 = F := by
  funext c i
  unfold mCp
  rw [if_neg (by omega)]
theorem mCp_ne (F : zF) (a b o k : Nat) {c : Nat} (h : c ≠ a) : mCp F a b o k c = F c := by
  funext i
  unfold mCp
  rw [if_neg (fun h0 => h h0.1)]
theorem mCp_s (F : zF) (a b o k : Nat) : zup (mCp F a b o k) a k (F b (o + k)) = mCp F a b o (k + 1) := by
  funext c i
  unfold zup mCp
  by_cases hc : c = a
  · subst hc
    by_cases hi : i = k
    · subst hi
      rw [if_pos rfl, if_pos rfl, if_pos ⟨rfl, by omega⟩]
    · rw [if_pos rfl, if_neg hi]
      by_cases h2 : i < k
      · rw [if_pos ⟨rfl, h2⟩, if_pos ⟨rfl, by omega⟩]
      · rw [if_neg (fun h0 => h2 h0.2), if_neg (fun h0 => h2 (by omega))]
  · rw [if_neg hc, if_neg (fun h0 => hc h0.1), if_neg (fun h0 => hc h0.1)]
abbrev mT (F : zF) : zF := zup F 0 0 0
def sX9_set : zSp := fun as F ok _ => match as with
  | [.ref 0, .int s, .int v] => zcn (0 ≤ s ∧ s ≤ 2) (zcn ((if s = 0 then 1 else 0) ≤ v ∧ v ≤ aMost s) (∃ u j, u ≤ 8 ∧ F 0 3 = nI u ∧ j < 3 ∧ s = nI j ∧ ok (some (.int (mKeep (mT F) u 1 (3 + j)))) (zup (mKeep (mT F) u) 1 (3 + j) v)) (ok (some (.int 0)) (zup (mT F) 0 0 2))) (ok (some (.int 0)) (zup (mT F) 0 0 1))
  | _ => False
def sX9_addShip : zSp := fun as F ok _ => match as with
  | [.ref 0, .int a, .int b, .int c, .int d] => zcn ((1 ≤ a ∧ a ≤ 9) ∧ (1 ≤ b ∧ b ≤ 99) ∧ (0 ≤ c ∧ c ≤ 3)) (zcn (F 1 2 = 16) (ok (some (.int 0)) (zup (zup (mT F) 0 11 4) 0 0 2)) (zcn (F 1 1 < 2) (ok (some (.int 0)) (zup (zup (mT F) 0 11 5) 0 0 2))
      (∃ u n, u ≤ 8 ∧ F 0 3 = nI u ∧ n < 16 ∧ mKeep (mT F) u 1 2 = nI n ∧ ok (some (.int (nI n))) (mNS (mKeep (mT F) u) n a b c (if d = 0 then 0 else 1))))) (ok (some (.int 0)) (zup (mT F) 0 0 1))
  | _ => False
def sX9_append : zSp := fun as F ok _ => match as with
  | [.ref 0, .int c] => zcn (F 0 8 = 50) (ok none (zup F 0 0 1)) (∃ l, l < 50 ∧ F 0 8 = nI l ∧ ok none (zup (zup (mT F) 0 8 (F 0 8 + 1)) 5 l c))
  | _ => False
def sX9_save : zSp := fun as F ok _ => match as with
  | [.ref 0] => ok none (mCp (zup (mT F) 0 5 1) 3 1 0 197)
  | _ => False
def sX9_restore : zSp := fun as F ok _ => match as with
  | [.ref 0] => zcn (F 0 5 = 0) (ok none (zup F 0 0 1)) (ok none (zup (mCp (mT F) 1 3 0 197) 0 3 0))
  | _ => False
def sX9_undo : zSp := fun as F ok _ => match as with
  | [.ref 0] => zcn (F 0 3 = 0) (ok (some (.int 0)) (zup (mT F) 0 0 1)) (∃ v, v < 8 ∧ F 0 3 = nI (v + 1) ∧ ok (some (.int (nI v))) (mCp (zup (mT F) 0 3 (nI v)) 1 2 (197 * v) 197))
  | _ => False

theorem aMost_0 : aMost 0 = 20 := rfl
theorem z3_of {x : Int32} (h0 : 0 ≤ x) (h8 : x ≤ 2) : ∃ k, k < 3 ∧ x = nI k := by
  obtain ⟨j, hj, rfl⟩ := nI_of (Int32.not_lt.mpr h0)
  have h9 : nI j ≤ nI 2 := h8
  have h10 := (nI_leI hj (by decide)).mp h9
  exact ⟨j, by omega, rfl⟩
theorem ix_set (j : Nat) : 3 + nI j = nI (3 + j) := by rw [show (3 : Int32) = nI 3 from rfl, nI_add]

def kX9_set : List zI := [
  (0, 1, .aload_n 0, [], 0),
  (1, 1, .iconst 0, [], 0),
  (2, 3, .putfield 42, [], 0),
  (5, 1, .iload_n 1, [], 0),
  (6, 1, .iconst 0, [], 0),
  (7, 1, .iconst 2, [], 2),
  (8, 3, .invokestatic 55, [], 0),
  (11, 3, .ifCond .ne 9, [20], 0),
  (14, 1, .aload_n 0, [], 0),
  (15, 1, .iconst 1, [], 1),
  (16, 3, .invokevirtual 48, [], 0),
  (19, 1, .ireturn, [], 0),
  (20, 1, .iload_n 2, [], 0),
  (21, 1, .iload_n 1, [], 0),
  (22, 3, .ifCond .ne 7, [29], 0),
  (25, 1, .iconst 1, [], 1),
  (26, 3, .goto 4, [30], 0),
  (29, 1, .iconst 0, [], 0),
  (30, 1, .iload_n 1, [], 0),
  (31, 3, .ifCond .ne 8, [39], 0),
  (34, 2, .bipush 20, [], 20),
  (36, 3, .goto 15, [51], 0),
  (39, 1, .iload_n 1, [], 0),
  (40, 1, .iconst 1, [], 1),
  (41, 3, .if_icmp .ne 8, [49], 0),
  (44, 2, .bipush 50, [], 50),
  (46, 3, .goto 5, [51], 0),
  (49, 2, .bipush 99, [], 99),
  (51, 3, .invokestatic 55, [], 0),
  (54, 3, .ifCond .ne 9, [63], 0),
  (57, 1, .aload_n 0, [], 0),
  (58, 1, .iconst 2, [], 2),
  (59, 3, .invokevirtual 48, [], 0),
  (62, 1, .ireturn, [], 0),
  (63, 1, .aload_n 0, [], 0),
  (64, 3, .invokevirtual 59, [], 0),
  (67, 1, .aload_n 0, [], 0),
  (68, 3, .getfield 9, [], 0),
  (71, 1, .iconst 3, [], 3),
  (72, 1, .iload_n 1, [], 0),
  (73, 1, .iadd, [], 0),
  (74, 1, .iaload, [], 0),
  (75, 1, .istore_n 3, [], 0),
  (76, 1, .aload_n 0, [], 0),
  (77, 3, .getfield 9, [], 0),
  (80, 1, .iconst 3, [], 3),
  (81, 1, .iload_n 1, [], 0),
  (82, 1, .iadd, [], 0),
  (83, 1, .iload_n 2, [], 0),
  (84, 1, .iastore, [], 0),
  (85, 1, .iload_n 3, [], 0),
  (86, 1, .ireturn, [], 0)]
theorem kX9_set_ok : kX9_set.all (zck cX9_set) = true := by decide +kernel

def rX9_set : Room := { frames := 1, cells := 0, slots := 0, locals := 22 }
abbrev YX9_set : zM := (RX9, cX9_set, 4, some .int, rX9_set, UM, zlk fX9, zcs [(48, 2, 0, 0, zvs (UM) 9 (sX9_raises)), (59, 1, 0, 0, zvs (UM) 9 (sX9_changes))] [(55, 3, 0, 0, sX9_in)])
theorem YX9_set_ok : zYok (YX9_set) := zYok_of fX9_ok (zall (zcal_mono (zcalV (Y := YX9_set) (y := yX9_raises) (cc := cX9_raises) (nL := 2) (ret := some .int) (rm := rX9_raises) (mX9_raises) 48 1 9 (T := TX9) rfl wX9_48 ⟨by decide +kernel, by decide +kernel, by decide +kernel⟩ (by decide) ⟨Nat.le_of_ble_eq_true rfl, Nat.le_of_ble_eq_true rfl⟩) (fun _ _ _ _ h => zvs_P h)) (zall (zcal_mono (zcalV (Y := YX9_set) (y := yX9_changes) (cc := cX9_changes) (nL := 2) (ret := none) (rm := rX9_changes) (mX9_changes) 59 0 9 (T := TX9) rfl wX9_59 ⟨by decide +kernel, by decide +kernel, by decide +kernel⟩ (by decide) ⟨Nat.le_of_ble_eq_true rfl, Nat.le_of_ble_eq_true rfl⟩) (fun _ _ _ _ h => zvs_P h)) znil)) (zall (zcalS (Y := YX9_set) (y := yX9_in) (cc := cX9_in) (nL := 3) (ret := some .boolean) (rm := rX9_in) (mX9_in) 55 3 wX9_55 ⟨by decide +kernel, by decide +kernel, by decide +kernel⟩ (by decide) ⟨Nat.le_of_ble_eq_true rfl, Nat.le_of_ble_eq_true rfl⟩) znil)

theorem mX9_set : zMet (UM) yX9_set cX9_set 4 (some .int) rX9_set (sX9_set) := by
  refine zmet (Y := YX9_set) rfl (by decide +kernel) ?_
  intro av F ok ex h
  unfold sX9_set at h
  split at h
  · rename_i s v
    refine zgo_ok (YX9_set_ok) zno kX9_set (List.all_eq_true.mp kX9_set_ok) 0 _ _ _ _ _ ?_
    refine And.intro (fun h1 => ?_) (fun h1 => zjne0 (h.2 h1))
    refine zjne1 ?_
    have h := h.1 h1
    refine And.intro (fun h3 => ?_) (fun h3 => ?_)
    · have h3 : ¬ s = 0 := h3
      unfold aMost at h
      rw [if_neg h3, if_neg h3] at h
      refine And.intro (fun _ => ?_) (fun h4 => absurd h4 h3)
      refine And.intro (fun h4 => ?_) (fun h4 => ?_)
      · have h4 : ¬ s = 1 := h4
        rw [if_neg h4] at h
        refine And.intro (fun h2 => ?_) (fun h2 => zjne0 (h.2 h2))
        refine zjne1 ?_
        have h := h.1 h2
        obtain ⟨u, j, hu, h5, hj, h6, h⟩ := h
        have e1 : (3 + s).toNatClampNeg = 3 + j := by rw [h6]; exact zicl (ix_set j) (by omega)
        have e2 : 3 + s = nI (3 + j) := by rw [h6]; exact ix_set j
        rw [← e1] at h
        refine ⟨u, hu, h5, ?_⟩
        refine Exists.intro (zix e2 (by omega) (by decide)) ?_
        refine Exists.intro (zix e2 (by omega) (by decide)) ?_
        exact h
      · have h4 : s = 1 := h4
        rw [if_pos h4] at h
        refine And.intro (fun h2 => ?_) (fun h2 => zjne0 (h.2 h2))
        refine zjne1 ?_
        have h := h.1 h2
        obtain ⟨u, j, hu, h5, hj, h6, h⟩ := h
        have e1 : (3 + s).toNatClampNeg = 3 + j := by rw [h6]; exact zicl (ix_set j) (by omega)
        have e2 : 3 + s = nI (3 + j) := by rw [h6]; exact ix_set j
        rw [← e1] at h
        refine ⟨u, hu, h5, ?_⟩
        refine Exists.intro (zix e2 (by omega) (by decide)) ?_
        refine Exists.intro (zix e2 (by omega) (by decide)) ?_
        exact h
    · have h3 : s = 0 := h3
      unfold aMost at h
      rw [if_pos h3, if_pos h3] at h
      refine And.intro (fun h4 => absurd h3 h4) (fun _ => ?_)
      refine And.intro (fun h2 => ?_) (fun h2 => zjne0 (h.2 h2))
      refine zjne1 ?_
      have h := h.1 h2
      obtain ⟨u, j, hu, h5, hj, h6, h⟩ := h
      have e1 : (3 + s).toNatClampNeg = 3 + j := by rw [h6]; exact zicl (ix_set j) (by omega)
      have e2 : 3 + s = nI (3 + j) := by rw [h6]; exact ix_set j
      rw [← e1] at h
      refine ⟨u, hu, h5, ?_⟩
      refine Exists.intro (zix e2 (by omega) (by decide)) ?_
      refine Exists.intro (zix e2 (by omega) (by decide)) ?_
      exact h
  · exact h.elim

def kX9_append : List zI := [
  (0, 1, .aload_n 0, [], 0),
  (1, 1, .aload_n 0, [], 0),
  (2, 3, .getfield 117, [], 0),
  (5, 2, .bipush 50, [], 50),
  (7, 3, .if_icmp .ne 7, [14], 0),
  (10, 1, .iconst 1, [], 1),
  (11, 3, .goto 4, [15], 0),
  (14, 1, .iconst 0, [], 0),
  (15, 3, .putfield 42, [], 0),
  (18, 1, .aload_n 0, [], 0),
  (19, 3, .getfield 42, [], 0),
  (22, 3, .ifCond .ne 20, [42], 0),
  (25, 1, .aload_n 0, [], 0),
  (26, 3, .getfield 22, [], 0),
  (29, 1, .aload_n 0, [], 0),
  (30, 1, .dup, [], 0),
  (31, 3, .getfield 117, [], 0),
  (34, 1, .dup_x1, [], 0),
  (35, 1, .iconst 1, [], 1),
  (36, 1, .iadd, [], 0),
  (37, 3, .putfield 117, [], 0),
  (40, 1, .iload_n 1, [], 0),
  (41, 1, .iastore, [], 0),
  (42, 1, .return_, [], 0)]
theorem kX9_append_ok : kX9_append.all (zck cX9_append) = true := by decide +kernel

def rX9_append : Room := { frames := 0, cells := 0, slots := 0, locals := 0 }
abbrev YX9_append : zM := (RX9, cX9_append, 2, none, rX9_append, UM, zlk fX9, zcs [] [])
theorem YX9_append_ok : zYok (YX9_append) := zYok_of fX9_ok znil znil

theorem mX9_append : zMet (UM) yX9_append cX9_append 2 (none) rX9_append (sX9_append) := by
  refine zmet (Y := YX9_append) rfl (by decide +kernel) ?_
  intro av F ok ex h
  unfold sX9_append at h
  split at h
  · rename_i c
    refine zgo_ok (YX9_append_ok) zno kX9_append (List.all_eq_true.mp kX9_append_ok) 0 _ _ _ _ _ ?_
    refine And.intro (fun h1 => ?_) (fun h1 => ?_)
    · have h1 : ¬ F 0 8 = 50 := h1
      have h := h.2 h1
      obtain ⟨l, hl, h2, h⟩ := h
      refine zjne0 ?_
      refine Exists.intro (zix h2 hl (by decide)) ?_
      have e1 : (F 0 8).toNatClampNeg = l := zicl h2 (by omega)
      rw [← e1] at h
      exact h
    · have h1 : F 0 8 = 50 := h1
      have h := h.1 h1
      exact zjne1 h
  · exact h.elim

def kX9_addShip : List zI := [
  (0, 1, .aload_n 0, [], 0),
  (1, 1, .iconst 0, [], 0),
  (2, 3, .putfield 42, [], 0),
  (5, 1, .iload_n 1, [], 0),
  (6, 1, .iconst 1, [], 1),
  (7, 2, .bipush 9, [], 9),
  (9, 3, .invokestatic 55, [], 0),
  (12, 3, .ifCond .eq 22, [34], 0),
  (15, 1, .iload_n 2, [], 0),
  (16, 1, .iconst 1, [], 1),
  (17, 2, .bipush 99, [], 99),
  (19, 3, .invokestatic 55, [], 0),
  (22, 3, .ifCond .eq 12, [34], 0),
  (25, 1, .iload_n 3, [], 0),
  (26, 1, .iconst 0, [], 0),
  (27, 1, .iconst 3, [], 3),
  (28, 3, .invokestatic 55, [], 0),
  (31, 3, .ifCond .ne 9, [40], 0),
  (34, 1, .aload_n 0, [], 0),
  (35, 1, .iconst 1, [], 1),
  (36, 3, .invokevirtual 48, [], 0),
  (39, 1, .ireturn, [], 0),
  (40, 1, .aload_n 0, [], 0),
  (41, 3, .getfield 9, [], 0),
  (44, 1, .iconst 2, [], 2),
  (45, 1, .iaload, [], 0),
  (46, 2, .bipush 16, [], 16),
  (48, 3, .if_icmp .ne 10, [58], 0),
  (51, 1, .aload_n 0, [], 0),
  (52, 1, .iconst 4, [], 4),
  (53, 1, .iconst 2, [], 2),
  (54, 3, .invokevirtual 110, [], 0),
  (57, 1, .ireturn, [], 0),
  (58, 1, .aload_n 0, [], 0),
  (59, 3, .getfield 9, [], 0),
  (62, 1, .iconst 1, [], 1),
  (63, 1, .iaload, [], 0),
  (64, 1, .iconst 2, [], 2),
  (65, 3, .if_icmp .ge 10, [75], 0),
  (68, 1, .aload_n 0, [], 0),
  (69, 1, .iconst 5, [], 5),
  (70, 1, .iconst 2, [], 2),
  (71, 3, .invokevirtual 110, [], 0),
  (74, 1, .ireturn, [], 0),
  (75, 1, .aload_n 0, [], 0),
  (76, 3, .invokevirtual 59, [], 0),
  (79, 1, .aload_n 0, [], 0),
  (80, 1, .iload_n 1, [], 0),
  (81, 1, .iload_n 2, [], 0),
  (82, 1, .iload_n 3, [], 0),
  (83, 2, .iload 4, [], 0),
  (85, 3, .ifCond .eq 7, [92], 0),
  (88, 1, .iconst 1, [], 1),
  (89, 3, .goto 4, [93], 0),
  (92, 1, .iconst 0, [], 0),
  (93, 3, .invokevirtual 113, [], 0),
  (96, 1, .ireturn, [], 0)]
theorem kX9_addShip_ok : kX9_addShip.all (zck cX9_addShip) = true := by decide +kernel

def rX9_addShip : Room := { frames := 2, cells := 0, slots := 0, locals := 48 }
abbrev YX9_addShip : zM := (RX9, cX9_addShip, 5, some .int, rX9_addShip, UM, zlk fX9, zcs [(48, 2, 0, 0, zvs (UM) 9 (sX9_raises)), (110, 3, 0, 0, zvs (UM) 9 (sX9_refuses)), (59, 1, 0, 0, zvs (UM) 9 (sX9_changes)), (113, 5, 0, 0, zvs (UM) 9 (sX9_newShip))] [(55, 3, 0, 0, sX9_in)])
theorem YX9_addShip_ok : zYok (YX9_addShip) := zYok_of fX9_ok (zall (zcal_mono (zcalV (Y := YX9_addShip) (y := yX9_raises) (cc := cX9_raises) (nL := 2) (ret := some .int) (rm := rX9_raises) (mX9_raises) 48 1 9 (T := TX9) rfl wX9_48 ⟨by decide +kernel, by decide +kernel, by decide +kernel⟩ (by decide) ⟨Nat.le_of_ble_eq_true rfl, Nat.le_of_ble_eq_true rfl⟩) (fun _ _ _ _ h => zvs_P h)) (zall (zcal_mono (zcalV (Y := YX9_addShip) (y := yX9_refuses) (cc := cX9_refuses) (nL := 3) (ret := some .int) (rm := rX9_refuses) (mX9_refuses) 110 2 9 (T := TX9) rfl wX9_110 ⟨by decide +kernel, by decide +kernel, by decide +kernel⟩ (by decide) ⟨Nat.le_of_ble_eq_true rfl, Nat.le_of_ble_eq_true rfl⟩) (fun _ _ _ _ h => zvs_P h)) (zall (zcal_mono (zcalV (Y := YX9_addShip) (y := yX9_changes) (cc := cX9_changes) (nL := 2) (ret := none) (rm := rX9_changes) (mX9_changes) 59 0 9 (T := TX9) rfl wX9_59 ⟨by decide +kernel, by decide +kernel, by decide +kernel⟩ (by decide) ⟨Nat.le_of_ble_eq_true rfl, Nat.le_of_ble_eq_true rfl⟩) (fun _ _ _ _ h => zvs_P h)) (zall (zcal_mono (zcalV (Y := YX9_addShip) (y := yX9_newShip) (cc := cX9_newShip) (nL := 6) (ret := some .int) (rm := rX9_newShip) (mX9_newShip) 113 4 9 (T := TX9) rfl wX9_113 ⟨by decide +kernel, by decide +kernel, by decide +kernel⟩ (by decide) ⟨Nat.le_of_ble_eq_true rfl, Nat.le_of_ble_eq_true rfl⟩) (fun _ _ _ _ h => zvs_P h)) znil)))) (zall (zcalS (Y := YX9_addShip) (y := yX9_in) (cc := cX9_in) (nL := 3) (ret := some .boolean) (rm := rX9_in) (mX9_in) 55 3 wX9_55 ⟨by decide +kernel, by decide +kernel, by decide +kernel⟩ (by decide) ⟨Nat.le_of_ble_eq_true rfl, Nat.le_of_ble_eq_true rfl⟩) znil)

theorem mX9_addShip : zMet (UM) yX9_addShip cX9_addShip 5 (some .int) rX9_addShip (sX9_addShip) := by
  refine zmet (Y := YX9_addShip) rfl (by decide +kernel) ?_
  intro av F ok ex h
  unfold sX9_addShip at h
  split at h
  · rename_i a b c d
    refine zgo_ok (YX9_addShip_ok) zno kX9_addShip (List.all_eq_true.mp kX9_addShip_ok) 0 _ _ _ _ _ ?_
    refine And.intro (fun h1 => ?_) (fun h1 => zjeq0 (h.2 fun g => h1 g.1))
    refine zjeq1 ?_
    refine And.intro (fun h2 => ?_) (fun h2 => zjeq0 (h.2 fun g => h2 g.2.1))
    refine zjeq1 ?_
    refine And.intro (fun h3 => ?_) (fun h3 => zjne0 (h.2 fun g => h3 g.2.2))
    refine zjne1 ?_
    have h := h.1 ⟨h1, h2, h3⟩
    refine Exists.intro (zix (k := 2) rfl (by decide) (by decide)) ?_
    refine And.intro (fun h4 => ?_) (fun h4 => h.1 h4)
    have h := h.2 h4
    refine Exists.intro (zix (k := 1) rfl (by decide) (by decide)) ?_
    refine And.intro (fun h5 => ?_) (fun h5 => h.1 (Int32.not_le.mp h5))
    have h := h.2 (Int32.not_lt.mpr h5)
    obtain ⟨u, n, hu, h6, hn, h7, h⟩ := h
    refine ⟨u, hu, h6, ?_⟩
    refine And.intro (fun h8 => ?_) (fun h8 => ?_)
    · have h8 : d = 0 := h8
      rw [if_pos h8] at h
      exact ⟨n, hn, h7, h⟩
    · have h8 : ¬ d = 0 := h8
      rw [if_neg h8] at h
      exact ⟨n, hn, h7, h⟩
  · exact h.elim

def kX9_save : List zI := [
  (0, 1, .aload_n 0, [], 0),
  (1, 1, .iconst 0, [], 0),
  (2, 3, .putfield 42, [], 0),
  (5, 1, .aload_n 0, [], 0),
  (6, 1, .iconst 1, [], 1),
  (7, 3, .putfield 199, [], 0),
  (10, 1, .iconst 0, [], 0),
  (11, 1, .istore_n 1, [], 0),
  (12, 1, .iload_n 1, [], 0),
  (13, 3, .sipush 197, [], 197),
  (16, 3, .if_icmp .ge 21, [37], 0),
  (19, 1, .aload_n 0, [], 0),
  (20, 3, .getfield 16, [], 0),
  (23, 1, .iload_n 1, [], 0),
  (24, 1, .aload_n 0, [], 0),
  (25, 3, .getfield 9, [], 0),
  (28, 1, .iload_n 1, [], 0),
  (29, 1, .iaload, [], 0),
  (30, 1, .iastore, [], 0),
  (31, 3, .iinc 1 1, [], 1),
  (34, 3, .goto (-22), [12], 0),
  (37, 1, .return_, [], 0)]
theorem kX9_save_ok : kX9_save.all (zck cX9_save) = true := by decide +kernel

def rX9_save : Room := { frames := 0, cells := 0, slots := 0, locals := 0 }
abbrev YX9_save : zM := (RX9, cX9_save, 2, none, rX9_save, UM, zlk fX9, zcs [] [])
theorem YX9_save_ok : zYok (YX9_save) := zYok_of fX9_ok znil znil

theorem lX9_save (ok : zO) (ex : zX) (G : zF) (h : ok none (mCp G 3 1 0 197)) : ∀ (d k : Nat), k + d = 197 → zWP YX9_save ok ex 12 [some (.ref 0), some (.int (nI k))] [] 0 0 (mCp G 3 1 0 k) := by
  intro d
  induction d with
  | zero =>
    intro k hk
    have hk : k = 197 := hk
    subst hk
    refine zat_ok YX9_save_ok (inv := zi1 12 (fun ls st kc ks G => zWP YX9_save ok ex 12 ls st kc ks G)) (zone fun _ _ _ _ _ h => h) kX9_save (List.all_eq_true.mp kX9_save_ok) 12 _ _ _ _ _ ?_
    exact And.intro (fun _ => h) (fun g => absurd (by decide) g)
  | succ d ih =>
    intro k hk
    have ih := ih (k + 1) (by omega)
    have e1 : mCp G 3 1 0 k 1 (nI k).toNatClampNeg = G 1 (0 + k) := by
      rw [mCp_ne _ _ _ _ _ (by decide), nI_clamp (by omega), Nat.zero_add]
    have e2 : (nI k).toNatClampNeg = k := nI_clamp (by omega)
    rw [← nI_1, ← mCp_s, ← e1] at ih
    refine zat_ok YX9_save_ok (inv := zi1 12 (fun ls st kc ks G => zWP YX9_save ok ex 12 ls st kc ks G)) (zone fun _ _ _ _ _ h => h) kX9_save (List.all_eq_true.mp kX9_save_ok) 12 _ _ _ _ _ ?_
    refine And.intro (fun g => absurd g (nI_ge (a := k) (b := 197) (by omega) (by decide))) (fun _ => ?_)
    refine Exists.intro (zix (x := nI k) rfl (by omega) (by decide)) ?_
    refine Exists.intro (zix (x := nI k) rfl (by omega) (by decide)) ?_
    show zWP YX9_save ok ex 12 [some (.ref 0), some (.int (nI k + 1))] [] 0 0 (zup (mCp G 3 1 0 k) 3 (nI k).toNatClampNeg (mCp G 3 1 0 k 1 (nI k).toNatClampNeg))
    rw [show zup (mCp G 3 1 0 k) 3 (nI k).toNatClampNeg = zup (mCp G 3 1 0 k) 3 k by rw [e2]]
    exact ih

theorem mX9_save : zMet (UM) yX9_save cX9_save 2 (none) rX9_save (sX9_save) := by
  refine zmet (Y := YX9_save) rfl (by decide +kernel) ?_
  intro av F ok ex h
  unfold sX9_save at h
  split at h
  · refine zgo_ok (YX9_save_ok) (inv := zi1 12 (fun ls st kc ks G => zWP YX9_save ok ex 12 ls st kc ks G)) (zone fun _ _ _ _ _ h => h) kX9_save (List.all_eq_true.mp kX9_save_ok) 0 _ _ _ _ _ ?_
    have h5 := lX9_save ok ex (zup (mT F) 0 5 1) h 197 0 rfl
    rw [mCp_0] at h5
    exact Exists.intro (Or.inr rfl) h5
  · exact h.elim

def kX9_restore : List zI := [
  (0, 1, .aload_n 0, [], 0),
  (1, 1, .aload_n 0, [], 0),
  (2, 3, .getfield 199, [], 0),
  (5, 3, .ifCond .eq 7, [12], 0),
  (8, 1, .iconst 0, [], 0),
  (9, 3, .goto 4, [13], 0),
  (12, 1, .iconst 1, [], 1),
  (13, 3, .putfield 42, [], 0),
  (16, 1, .aload_n 0, [], 0),
  (17, 3, .getfield 199, [], 0),
  (20, 3, .ifCond .ne 4, [24], 0),
  (23, 1, .return_, [], 0),
  (24, 1, .iconst 0, [], 0),
  (25, 1, .istore_n 1, [], 0),
  (26, 1, .iload_n 1, [], 0),
  (27, 3, .sipush 197, [], 197),
  (30, 3, .if_icmp .ge 21, [51], 0),
  (33, 1, .aload_n 0, [], 0),
  (34, 3, .getfield 9, [], 0),
  (37, 1, .iload_n 1, [], 0),
  (38, 1, .aload_n 0, [], 0),
  (39, 3, .getfield 16, [], 0),
  (42, 1, .iload_n 1, [], 0),
  (43, 1, .iaload, [], 0),
  (44, 1, .iastore, [], 0),
  (45, 3, .iinc 1 1, [], 1),
  (48, 3, .goto (-22), [26], 0),
  (51, 1, .aload_n 0, [], 0),
  (52, 1, .iconst 0, [], 0),
  (53, 3, .putfield 52, [], 0),
  (56, 1, .return_, [], 0)]
theorem kX9_restore_ok : kX9_restore.all (zck cX9_restore) = true := by decide +kernel

def rX9_restore : Room := { frames := 0, cells := 0, slots := 0, locals := 0 }
abbrev YX9_restore : zM := (RX9, cX9_restore, 2, none, rX9_restore, UM, zlk fX9, zcs [] [])
theorem YX9_restore_ok : zYok (YX9_restore) := zYok_of fX9_ok znil znil

theorem lX9_restore (ok : zO) (ex : zX) (G : zF) (h : ok none (zup (mCp G 1 3 0 197) 0 3 0)) : ∀ (d k : Nat), k + d = 197 → zWP YX9_restore ok ex 26 [some (.ref 0), some (.int (nI k))] [] 0 0 (mCp G 1 3 0 k) := by
  intro d
  induction d with
  | zero =>
    intro k hk
    have hk : k = 197 := hk
    subst hk
    refine zat_ok YX9_restore_ok (inv := zi1 26 (fun ls st kc ks G => zWP YX9_restore ok ex 26 ls st kc ks G)) (zone fun _ _ _ _ _ h => h) kX9_restore (List.all_eq_true.mp kX9_restore_ok) 26 _ _ _ _ _ ?_
    exact And.intro (fun _ => h) (fun g => absurd (by decide) g)
  | succ d ih =>
    intro k hk
    have ih := ih (k + 1) (by omega)
    have e1 : mCp G 1 3 0 k 3 (nI k).toNatClampNeg = G 3 (0 + k) := by
      rw [mCp_ne _ _ _ _ _ (by decide), nI_clamp (by omega), Nat.zero_add]
    have e2 : (nI k).toNatClampNeg = k := nI_clamp (by omega)
    rw [← nI_1, ← mCp_s, ← e1] at ih
    refine zat_ok YX9_restore_ok (inv := zi1 26 (fun ls st kc ks G => zWP YX9_restore ok ex 26 ls st kc ks G)) (zone fun _ _ _ _ _ h => h) kX9_restore (List.all_eq_true.mp kX9_restore_ok) 26 _ _ _ _ _ ?_
    refine And.intro (fun g => absurd g (nI_ge (a := k) (b := 197) (by omega) (by decide))) (fun _ => ?_)
    refine Exists.intro (zix (x := nI k) rfl (by omega) (by decide)) ?_
    refine Exists.intro (zix (x := nI k) rfl (by omega) (by decide)) ?_
    show zWP YX9_restore ok ex 26 [some (.ref 0), some (.int (nI k + 1))] [] 0 0 (zup (mCp G 1 3 0 k) 1 (nI k).toNatClampNeg (mCp G 1 3 0 k 3 (nI k).toNatClampNeg))
    rw [show zup (mCp G 1 3 0 k) 1 (nI k).toNatClampNeg = zup (mCp G 1 3 0 k) 1 k by rw [e2]]
    exact ih

theorem mX9_restore : zMet (UM) yX9_restore cX9_restore 2 (none) rX9_restore (sX9_restore) := by
  refine zmet (Y := YX9_restore) rfl (by decide +kernel) ?_
  intro av F ok ex h
  unfold sX9_restore at h
  split at h
  · refine zgo_ok (YX9_restore_ok) (inv := zi1 26 (fun ls st kc ks G => zWP YX9_restore ok ex 26 ls st kc ks G)) (zone fun _ _ _ _ _ h => h) kX9_restore (List.all_eq_true.mp kX9_restore_ok) 0 _ _ _ _ _ ?_
    refine And.intro (fun h1 => ?_) (fun h1 => ?_)
    · have h1 : F 0 5 = 0 := h1
      have h := h.1 h1
      exact And.intro (fun g => absurd h1 g) (fun _ => h)
    · have h1 : ¬ F 0 5 = 0 := h1
      have h := h.2 h1
      refine And.intro (fun _ => ?_) (fun g => absurd g h1)
      have h5 := lX9_restore ok ex (mT F) h 197 0 rfl
      rw [mCp_0] at h5
      exact h5
  · exact h.elim

def kX9_undo : List zI := [
  (0, 1, .aload_n 0, [], 0),
  (1, 1, .iconst 0, [], 0),
  (2, 3, .putfield 42, [], 0),
  (5, 1, .aload_n 0, [], 0),
  (6, 3, .getfield 52, [], 0),
  (9, 3, .ifCond .ne 9, [18], 0),
  (12, 1, .aload_n 0, [], 0),
  (13, 1, .iconst 1, [], 1),
  (14, 3, .invokevirtual 48, [], 0),
  (17, 1, .ireturn, [], 0),
  (18, 1, .aload_n 0, [], 0),
  (19, 1, .dup, [], 0),
  (20, 3, .getfield 52, [], 0),
  (23, 1, .iconst 1, [], 1),
  (24, 1, .isub, [], 0),
  (25, 3, .putfield 52, [], 0),
  (28, 1, .iconst 0, [], 0),
  (29, 1, .istore_n 1, [], 0),
  (30, 1, .iload_n 1, [], 0),
  (31, 3, .sipush 197, [], 197),
  (34, 3, .if_icmp .ge 30, [64], 0),
  (37, 1, .aload_n 0, [], 0),
  (38, 3, .getfield 9, [], 0),
  (41, 1, .iload_n 1, [], 0),
  (42, 1, .aload_n 0, [], 0),
  (43, 3, .getfield 13, [], 0),
  (46, 3, .sipush 197, [], 197),
  (49, 1, .aload_n 0, [], 0),
  (50, 3, .getfield 52, [], 0),
  (53, 1, .imul, [], 0),
  (54, 1, .iload_n 1, [], 0),
  (55, 1, .iadd, [], 0),
  (56, 1, .iaload, [], 0),
  (57, 1, .iastore, [], 0),
  (58, 3, .iinc 1 1, [], 1),
  (61, 3, .goto (-31), [30], 0),
  (64, 1, .aload_n 0, [], 0),
  (65, 3, .getfield 52, [], 0),
  (68, 1, .ireturn, [], 0)]
theorem kX9_undo_ok : kX9_undo.all (zck cX9_undo) = true := by decide +kernel

def rX9_undo : Room := { frames := 1, cells := 0, slots := 0, locals := 21 }
abbrev YX9_undo : zM := (RX9, cX9_undo, 2, some .int, rX9_undo, UM, zlk fX9, zcs [(48, 2, 0, 0, zvs (UM) 9 (sX9_raises))] [])
theorem YX9_undo_ok : zYok (YX9_undo) := zYok_of fX9_ok (zall (zcal_mono (zcalV (Y := YX9_undo) (y := yX9_raises) (cc := cX9_raises) (nL := 2) (ret := some .int) (rm := rX9_raises) (mX9_raises) 48 1 9 (T := TX9) rfl wX9_48 ⟨by decide +kernel, by decide +kernel, by decide +kernel⟩ (by decide) ⟨Nat.le_of_ble_eq_true rfl, Nat.le_of_ble_eq_true rfl⟩) (fun _ _ _ _ h => zvs_P h)) znil) znil

theorem lX9_undo (ok : zO) (ex : zX) (G : zF) (v : Nat) (hv : v < 8) (h0 : G 0 3 = nI v) (h : ok (some (.int (nI v))) (mCp G 1 2 (197 * v) 197)) : ∀ (d k : Nat), k + d = 197 → zWP YX9_undo ok ex 30 [some (.ref 0), some (.int (nI k))] [] 0 0 (mCp G 1 2 (197 * v) k) := by
  intro d
  induction d with
  | zero =>
    intro k hk
    have hk : k = 197 := hk
    subst hk
    refine zat_ok YX9_undo_ok (inv := zi1 30 (fun ls st kc ks G => zWP YX9_undo ok ex 30 ls st kc ks G)) (zone fun _ _ _ _ _ h => h) kX9_undo (List.all_eq_true.mp kX9_undo_ok) 30 _ _ _ _ _ ?_
    refine And.intro (fun _ => ?_) (fun g => absurd (by decide) g)
    refine zleaf ok h ?_ rfl
    show some (Value.int (nI v)) = some (Value.int (mCp G 1 2 (197 * v) 197 0 3))
    rw [mCp_ne _ _ _ _ _ (by decide), h0]
  | succ d ih =>
    intro k hk
    have ih := ih (k + 1) (by omega)
    have e0 : mCp G 1 2 (197 * v) k 0 3 = nI v := by rw [mCp_ne _ _ _ _ _ (by decide), h0]
    have e3 : 197 * mCp G 1 2 (197 * v) k 0 3 + nI k = nI (197 * v + k) := by rw [e0, ix_ke]
    have e1 : mCp G 1 2 (197 * v) k 2 (197 * mCp G 1 2 (197 * v) k 0 3 + nI k).toNatClampNeg = G 2 (197 * v + k) := by
      rw [mCp_ne _ _ _ _ _ (show 2 ≠ 1 by decide), zicl e3 (by omega)]
    have e2 : (nI k).toNatClampNeg = k := nI_clamp (by omega)
    rw [← nI_1, ← mCp_s, ← e1] at ih
    refine zat_ok YX9_undo_ok (inv := zi1 30 (fun ls st kc ks G => zWP YX9_undo ok ex 30 ls st kc ks G)) (zone fun _ _ _ _ _ h => h) kX9_undo (List.all_eq_true.mp kX9_undo_ok) 30 _ _ _ _ _ ?_
    refine And.intro (fun g => absurd g (nI_ge (a := k) (b := 197) (by omega) (by decide))) (fun _ => ?_)
    refine Exists.intro (zix e3 (by omega) (by decide)) ?_
    refine Exists.intro (zix (x := nI k) rfl (by omega) (by decide)) ?_
    show zWP YX9_undo ok ex 30 [some (.ref 0), some (.int (nI k + 1))] [] 0 0 (zup (mCp G 1 2 (197 * v) k) 1 (nI k).toNatClampNeg (mCp G 1 2 (197 * v) k 2 (197 * mCp G 1 2 (197 * v) k 0 3 + nI k).toNatClampNeg))
    rw [show zup (mCp G 1 2 (197 * v) k) 1 (nI k).toNatClampNeg = zup (mCp G 1 2 (197 * v) k) 1 k by rw [e2]]
    exact ih

theorem mX9_undo : zMet (UM) yX9_undo cX9_undo 2 (some .int) rX9_undo (sX9_undo) := by
  refine zmet (Y := YX9_undo) rfl (by decide +kernel) ?_
  intro av F ok ex h
  unfold sX9_undo at h
  split at h
  · refine zgo_ok (YX9_undo_ok) (inv := zi1 30 (fun ls st kc ks G => zWP YX9_undo ok ex 30 ls st kc ks G)) (zone fun _ _ _ _ _ h => h) kX9_undo (List.all_eq_true.mp kX9_undo_ok) 0 _ _ _ _ _ ?_
    refine And.intro (fun h1 => ?_) (fun h1 => ?_)
    · have h1 : ¬ F 0 3 = 0 := h1
      obtain ⟨v, hv, h2, h⟩ := h.2 h1
      have h5 := lX9_undo ok ex (zup (mT F) 0 3 (nI v)) v hv (zup_at _ _ _ _) h 197 0 rfl
      rw [mCp_0] at h5
      have e : F 0 3 - 1 = nI v := by rw [h2, nI_pred]
      rw [← e] at h5
      exact h5
    · have h1 : F 0 3 = 0 := h1
      exact h.1 h1
  · exact h.elim

end ZN0
