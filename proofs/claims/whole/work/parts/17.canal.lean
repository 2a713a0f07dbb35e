/-! LockMaster.Canal: 0: patience 4, grace 5, inflow 6, tick 7, inflow so far 8, outflow 9, water at first 10 -/
section ZCa
def qWt (F : zF) (i : Int32) : Int32 := F 0 7 - qSi F i
def qPr (F : zF) (i : Int32) : Int32 := 4 * qGr F 16 i 0 + (if F 0 4 < 1 then 0 else qWt F i / F 0 4)
def qWcv (F : zF) : Nat → Int32
  | 0 => 0
  | k + 1 => qWcv F k + qCva F (nI k) (F 25 9).toNatClampNeg
abbrev qCB (F : zF) (a b : Int32) : Prop := 0 < qPr F a - qPr F b ∨ (qPr F a - qPr F b = 0 ∧ a < b)
abbrev qFA (F : zF) (i l : Int32) : Prop := qFi F i = i ∧ qWa F i = l
def qCAh (F : zF) (h l : Int32) : Nat → Int32
  | 0 => 0
  | k + 1 => qCAh F h l k + (if qFA F (nI k) l ∧ qCB F (nI k) h then 1 else 0)
def qCIO (F : zF) (l x : Int32) : Nat → Nat → Int32
  | 0, _ => -1
  | d + 1, k => if qFA F (nI k) l ∧ qCAh F (nI k) l (F 25 9).toNatClampNeg = x then nI k else qCIO F l x d (k + 1)
def qHR (F G : zF) (h l : Int32) : Int32 := if G 44 0 = 0 then 1 else if qLev G l < G 44 2 ∨ qLev G (l + 1) < G 44 2 then 2 else if qHb G (qDry G l) (qLen F l) (if qWt G h < G 0 5 then 0 else 1) then 3 else 0
abbrev qCBR (F : zF) (l : Int32) : Prop := qFu F l = 1 ∨ qLk F l ≤ qW F l
def qLkU (F : zF) (l : Int32) : Int32 := if qFu F l = 1 then qCh F l - qBa F l * qQu F l else qLk F l
abbrev qCFU (F : zF) (l : Int32) : Prop := qLkU F l ≤ qW F l
def qHO (F G : zF) (h : Int32) : Int32 := if qHR F G h (qWa F h) = 0 then (if (qUp G h = 1 ∧ qCFU G (qWa F h)) ∨ (¬ qUp G h = 1 ∧ qCBR G (qWa F h)) then 0 else 4) else qHR F G h (qWa F h)
def qTC (F : zF) (l : Int32) : zF := if qFu F l = 1 then qEmp (zwr 5 F 7 (l + 1) (qW F (l + 1) + qLeft F l)) l else qFill (zwr 5 F 7 l (qW F l + -(qLk F l))) l
def qNL (F : zF) (s : Int32) : Int32 := qWa F s + (if qUp F s = 1 then -1 else 1)
def qMO (F : zF) (s : Int32) : zF := if 0 ≤ qNL F s ∧ qNL F s < F 8 9 then zwr 16 (zwr 16 F 35 s (qNL F s)) 37 s (F 0 7 + 1) else qLv F s (F 0 7)
def qMv : Nat → zF → Int32 → zF
  | 0, F, _ => F
  | d + 1, F, s => qMv d (qMO F s) (qNx F s)
def qLR (F : zF) (h r l : Int32) : zF := zwr 4 (zwr 4 (qMv r.toNatClampNeg (qCt F h r) h) 22 l (zrd 4 (qMv r.toNatClampNeg (qCt F h r) h 22) l + r)) 24 l (zrd 4 (zwr 4 (qMv r.toNatClampNeg (qCt F h r) h) 22 l (zrd 4 (qMv r.toNatClampNeg (qCt F h r) h 22) l + r) 24) l + 1)
def sX1_makeReach : zSp := fun as F ok _ => match as with
  | [.ref 0, .int a, .int l] => ok (some (.int (F 1 3))) (zup (zwr 5 (zwr 5 (zwr 5 (zup F 0 10 (F 0 10 + a * l)) 3 (F 1 3) a) 5 (F 1 3) l) 7 (F 1 3) (a * l)) 1 3 (F 1 3 + 1))
  | _ => False
def qMkC (F : zF) (s d r b : Int32) : zF := zwr 16 (zwr 16 (qMkS F s d r (if b = 0 then 0 else 1)) 35 (F 25 9) (if b = 0 then 0 else F 8 9 - 1)) 37 (F 25 9) (F 0 7)
theorem qMkS_0 (F : zF) (s d r b : Int32) : qMkS F s d r b 0 = F 0 := by
  unfold qMkS
  rw [zup_ne _ _ _ (by decide), zwr_ne _ _ _ _ (by decide), zwr_ne _ _ _ _ (by decide), zwr_ne _ _ _ _ (by decide), zwr_ne _ _ _ _ (by decide), zwr_ne _ _ _ _ (by decide), zwr_ne _ _ _ _ (by decide), zwr_ne _ _ _ _ (by decide)]
theorem qMkS_8 (F : zF) (s d r b : Int32) : qMkS F s d r b 8 = F 8 := by
  unfold qMkS
  rw [zup_ne _ _ _ (by decide), zwr_ne _ _ _ _ (by decide), zwr_ne _ _ _ _ (by decide), zwr_ne _ _ _ _ (by decide), zwr_ne _ _ _ _ (by decide), zwr_ne _ _ _ _ (by decide), zwr_ne _ _ _ _ (by decide), zwr_ne _ _ _ _ (by decide)]
def sX1_makeShip : zSp := fun as F ok _ => match as with
  | [.ref 0, .int s, .int d, .int r, .int b] => ok (some (.int (F 25 9))) (qMkC F s d r b)
  | _ => False
def sX1_change : zSp := fun as F ok _ => match as with
  | [.ref 0, .int s, .int v] => ok (some (.int (if s = 0 then F 0 4 else if s = 1 then F 0 5 else F 0 6))) (if s = 0 then zup F 0 4 v else if s = 1 then zup F 0 5 v else zup F 0 6 v)
  | _ => False
def sX1_waitedBy : zSp := fun as F ok _ => match as with
  | [.ref 0, .int i] => ok (some (.int (qWt F i))) F
  | _ => False
def sX1_priorityOf : zSp := fun as F ok _ => match as with
  | [.ref 0, .int i] => ok (some (.int (qPr F i))) F
  | _ => False
def sX1_waitingConvoys : zSp := fun as F ok _ => match as with
  | [.ref 0] => ok (some (.int (qWcv F (F 8 9).toNatClampNeg))) F
  | _ => False
def sX1_comesBefore : zSp := fun as F ok _ => match as with
  | [.ref 0, .int a, .int b] => zbo (qCB F a b) F ok
  | _ => False
def sX1_convoysAheadOf : zSp := fun as F ok _ => match as with
  | [.ref 0, .int h, .int l] => ok (some (.int (qCAh F h l (F 25 9).toNatClampNeg))) F
  | _ => False
def sX1_convoyInOrder : zSp := fun as F ok _ => match as with
  | [.ref 0, .int l, .int x] => ok (some (.int (qCIO F l x (F 25 9).toNatClampNeg 0))) F
  | _ => False
def sX1_hindranceByRules : zSp := fun as F ok _ => match as with
  | [.ref 0, .int h, .int l] => ok (some (.int (qHR F (qLook F h (qLen F l)) h l))) (qLook F h (qLen F l))
  | _ => False
def sX1_canBeReadyForDown : zSp := fun as F ok _ => match as with
  | [.ref 0, .int l] => zbo (qCBR F l) F ok
  | _ => False
def sX1_canFillForUp : zSp := fun as F ok _ => match as with
  | [.ref 0, .int l] => zbo (qCFU F l) F ok
  | _ => False
def sX1_hindranceOf : zSp := fun as F ok _ => match as with
  | [.ref 0, .int h] => ok (some (.int (qHO F (qLook F h (qLen F (qWa F h))) h))) (qLook F h (qLen F (qWa F h)))
  | _ => False
def sX1_wasLockedNow : zSp := fun as F ok _ => match as with
  | [.ref 0, .int i] => zbo (F 0 7 < qSi F i) F ok
  | _ => False
def sX1_turnChamber : zSp := fun as F ok _ => match as with
  | [.ref 0, .int l] => ok none (qTC F l)
  | _ => False
def sX1_moveOn : zSp := fun as F ok _ => match as with
  | [.ref 0, .int s] => ok none (qMO F s)
  | _ => False
def sX1_lockRow : zSp := fun as F ok _ => match as with
  | [.ref 0, .int h, .int r, .int l] => ok none (qLR F h r l)
  | _ => False

def kX1_makeReach : List zI := [
  (0, 1, .aload_n 0, [], 0),
  (1, 1, .dup, [], 0),
  (2, 3, .getfield 58, [], 0),
  (5, 1, .iload_n 1, [], 0),
  (6, 1, .iload_n 2, [], 0),
  (7, 1, .imul, [], 0),
  (8, 1, .iadd, [], 0),
  (9, 3, .putfield 58, [], 0),
  (12, 1, .aload_n 0, [], 0),
  (13, 3, .getfield 12, [], 0),
  (16, 1, .iload_n 1, [], 0),
  (17, 1, .iload_n 2, [], 0),
  (18, 3, .invokevirtual 61, [], 0),
  (21, 1, .ireturn, [], 0)]
theorem kX1_makeReach_ok : kX1_makeReach.all (zck cX1_makeReach) = true := by decide +kernel

def rX1_makeReach : Room := { frames := 2, cells := 0, slots := 0, locals := 44 }
abbrev YX1_makeReach : zM := (RX1, cX1_makeReach, 3, some .int, rX1_makeReach, UC, zlk fX1, zcs [(61, 3, 0, 0, zvs (UC) 6 (sX6_make))] [])
theorem YX1_makeReach_ok : zYok (YX1_makeReach) := zYok_of fX1_ok (zall (zcal_mono (zcalV (Y := YX1_makeReach) (y := yX6_make) (cc := cX6_make) (nL := 3) (ret := some .int) (rm := rX6_make) (mX6_make) 61 2 6 (T := TX6) rfl wX1_61 ⟨by decide +kernel, by decide +kernel, by decide +kernel⟩ (by decide) ⟨Nat.le_of_ble_eq_true rfl, Nat.le_of_ble_eq_true rfl⟩) (fun _ _ _ _ h => zvs_P h)) znil) znil

theorem mX1_makeReach : zMet (UC) yX1_makeReach cX1_makeReach 3 (some .int) rX1_makeReach (sX1_makeReach) := by
  refine zmet (Y := YX1_makeReach) rfl (by decide +kernel) ?_
  intro av F ok ex h
  unfold sX1_makeReach at h
  split at h
  · rename_i a l
    refine zgo_ok (YX1_makeReach_ok) zno kX1_makeReach (List.all_eq_true.mp kX1_makeReach_ok) 0 _ _ _ _ _ ?_
    refine zleaf ok h ?_ ?_
    · rfl
    · rfl
  · exact h.elim

def kX1_makeShip : List zI := [
  (0, 1, .aload_n 0, [], 0),
  (1, 3, .getfield 28, [], 0),
  (4, 1, .iload_n 1, [], 0),
  (5, 1, .iload_n 2, [], 0),
  (6, 1, .iload_n 3, [], 0),
  (7, 2, .iload 4, [], 0),
  (9, 3, .invokevirtual 65, [], 0),
  (12, 2, .istore 5, [], 0),
  (14, 1, .aload_n 0, [], 0),
  (15, 3, .getfield 28, [], 0),
  (18, 3, .getfield 68, [], 0),
  (21, 2, .iload 5, [], 0),
  (23, 2, .iload 4, [], 0),
  (25, 3, .ifCond .eq 15, [40], 0),
  (28, 1, .aload_n 0, [], 0),
  (29, 3, .getfield 21, [], 0),
  (32, 3, .getfield 72, [], 0),
  (35, 1, .iconst 1, [], 1),
  (36, 1, .isub, [], 0),
  (37, 3, .goto 4, [41], 0),
  (40, 1, .iconst 0, [], 0),
  (41, 3, .invokevirtual 75, [], 0),
  (44, 1, .aload_n 0, [], 0),
  (45, 3, .getfield 28, [], 0),
  (48, 3, .getfield 81, [], 0),
  (51, 2, .iload 5, [], 0),
  (53, 1, .aload_n 0, [], 0),
  (54, 3, .getfield 49, [], 0),
  (57, 3, .invokevirtual 75, [], 0),
  (60, 2, .iload 5, [], 0),
  (62, 1, .ireturn, [], 0)]
theorem kX1_makeShip_ok : kX1_makeShip.all (zck cX1_makeShip) = true := by decide +kernel

def rX1_makeShip : Room := { frames := 2, cells := 0, slots := 0, locals := 47 }
abbrev YX1_makeShip : zM := (RX1, cX1_makeShip, 6, some .int, rX1_makeShip, UC, zlk fX1, zcs [(65, 5, 0, 0, zvs (UC) 3 (sX3_make)), (75, 3, 0, 0, zvs (UC) 7 (sU_put UC))] [])
theorem YX1_makeShip_ok : zYok (YX1_makeShip) := zYok_of fX1_ok (zall (zcal_mono (zcalV (Y := YX1_makeShip) (y := yX3_make) (cc := cX3_make) (nL := 6) (ret := some .int) (rm := rX3_make) (mX3_make) 65 4 3 (T := TX3) rfl wX1_65 ⟨by decide +kernel, by decide +kernel, by decide +kernel⟩ (by decide) ⟨Nat.le_of_ble_eq_true rfl, Nat.le_of_ble_eq_true rfl⟩) (fun _ _ _ _ h => zvs_P h)) (zall (zcal_mono (zcalV (Y := YX1_makeShip) (y := yX7_put) (cc := cX7_put) (nL := 3) (ret := none) (rm := rX7_put) (mU_put UC UC_small) 75 2 7 (T := TX7) rfl wX1_75 ⟨by decide +kernel, by decide +kernel, by decide +kernel⟩ (by decide) ⟨Nat.le_of_ble_eq_true rfl, Nat.le_of_ble_eq_true rfl⟩) (fun _ _ _ _ h => zvs_P h)) znil)) znil

theorem mX1_makeShip : zMet (UC) yX1_makeShip cX1_makeShip 6 (some .int) rX1_makeShip (sX1_makeShip) := by
  refine zmet (Y := YX1_makeShip) rfl (by decide +kernel) ?_
  intro av F ok ex h
  unfold sX1_makeShip at h
  split at h
  · rename_i s d r b
    refine zgo_ok (YX1_makeShip_ok) zno kX1_makeShip (List.all_eq_true.mp kX1_makeShip_ok) 0 _ _ _ _ _ ?_
    unfold qMkC at h
    refine And.intro (fun h1 => ?_) (fun h1 => ?_)
    · rw [if_pos h1, if_pos h1] at h
      refine zleaf ok h rfl ?_
      show _ = zwr 16 (zwr 16 (qMkS F s d r (if b = 0 then 0 else 1)) 35 (F 25 9) 0) 37 (F 25 9) (zwr 16 (qMkS F s d r (if b = 0 then 0 else 1)) 35 (F 25 9) 0 0 7)
      rw [if_pos h1, zwr_ne _ _ _ _ (show 0 ≠ 35 by decide), qMkS_0]
    · rw [if_neg h1, if_neg h1] at h
      refine zleaf ok h rfl ?_
      show _ = zwr 16 (zwr 16 (qMkS F s d r (if b = 0 then 0 else 1)) 35 (F 25 9) (qMkS F s d r (if b = 0 then 0 else 1) 8 9 - 1)) 37 (F 25 9) (zwr 16 (qMkS F s d r (if b = 0 then 0 else 1)) 35 (F 25 9) (qMkS F s d r (if b = 0 then 0 else 1) 8 9 - 1) 0 7)
      rw [if_neg h1, zwr_ne _ _ _ _ (show 0 ≠ 35 by decide), qMkS_0, qMkS_8]
  · exact h.elim

def kX1_change : List zI := [
  (0, 1, .iload_n 1, [], 0),
  (1, 3, .ifCond .ne 10, [11], 0),
  (4, 1, .aload_n 0, [], 0),
  (5, 3, .getfield 39, [], 0),
  (8, 3, .goto 19, [27], 0),
  (11, 1, .iload_n 1, [], 0),
  (12, 1, .iconst 1, [], 1),
  (13, 3, .if_icmp .ne 10, [23], 0),
  (16, 1, .aload_n 0, [], 0),
  (17, 3, .getfield 43, [], 0),
  (20, 3, .goto 7, [27], 0),
  (23, 1, .aload_n 0, [], 0),
  (24, 3, .getfield 46, [], 0),
  (27, 1, .istore_n 3, [], 0),
  (28, 1, .iload_n 1, [], 0),
  (29, 3, .ifCond .ne 11, [40], 0),
  (32, 1, .aload_n 0, [], 0),
  (33, 1, .iload_n 2, [], 0),
  (34, 3, .putfield 39, [], 0),
  (37, 3, .goto 21, [58], 0),
  (40, 1, .iload_n 1, [], 0),
  (41, 1, .iconst 1, [], 1),
  (42, 3, .if_icmp .ne 11, [53], 0),
  (45, 1, .aload_n 0, [], 0),
  (46, 1, .iload_n 2, [], 0),
  (47, 3, .putfield 43, [], 0),
  (50, 3, .goto 8, [58], 0),
  (53, 1, .aload_n 0, [], 0),
  (54, 1, .iload_n 2, [], 0),
  (55, 3, .putfield 46, [], 0),
  (58, 1, .iload_n 3, [], 0),
  (59, 1, .ireturn, [], 0)]
theorem kX1_change_ok : kX1_change.all (zck cX1_change) = true := by decide +kernel

def rX1_change : Room := { frames := 0, cells := 0, slots := 0, locals := 0 }
abbrev YX1_change : zM := (RX1, cX1_change, 4, some .int, rX1_change, UC, zlk fX1, zcs [] [])
theorem YX1_change_ok : zYok (YX1_change) := zYok_of fX1_ok znil znil

theorem mX1_change : zMet (UC) yX1_change cX1_change 4 (some .int) rX1_change (sX1_change) := by
  refine zmet (Y := YX1_change) rfl (by decide +kernel) ?_
  intro av F ok ex h
  unfold sX1_change at h
  split at h
  · rename_i s v
    refine zgo_ok (YX1_change_ok) zno kX1_change (List.all_eq_true.mp kX1_change_ok) 0 _ _ _ _ _ ?_
    repeat' (first
      | refine And.intro (fun h0 => absurd h0 (by decide)) (fun _ => ?_)
      | refine And.intro (fun _ => ?_) (fun h0 => absurd (by decide) h0)
      | refine And.intro (fun _ => ?_) (fun _ => ?_)
      | refine And.intro (fun _ => ?_) ?_
      | refine Exists.intro ?_ ?_)
    all_goals first
      | exact zleaf ok h (by simp_all) (by simp_all)
      | (exfalso; simp_all; done)
  · exact h.elim

def kX1_waitedBy : List zI := [
  (0, 1, .aload_n 0, [], 0),
  (1, 3, .getfield 49, [], 0),
  (4, 1, .aload_n 0, [], 0),
  (5, 3, .getfield 28, [], 0),
  (8, 3, .getfield 81, [], 0),
  (11, 1, .iload_n 1, [], 0),
  (12, 3, .invokevirtual 84, [], 0),
  (15, 1, .isub, [], 0),
  (16, 1, .ireturn, [], 0)]
theorem kX1_waitedBy_ok : kX1_waitedBy.all (zck cX1_waitedBy) = true := by decide +kernel

def rX1_waitedBy : Room := { frames := 1, cells := 0, slots := 0, locals := 21 }
abbrev YX1_waitedBy : zM := (RX1, cX1_waitedBy, 2, some .int, rX1_waitedBy, UC, zlk fX1, zcs [(84, 2, 0, 0, zvs (UC) 7 (sU_at UC))] [])
theorem YX1_waitedBy_ok : zYok (YX1_waitedBy) := zYok_of fX1_ok (zall (zcal_mono (zcalV (Y := YX1_waitedBy) (y := yX7_at) (cc := cX7_at) (nL := 2) (ret := some .int) (rm := rX7_at) (mU_at UC UC_small) 84 1 7 (T := TX7) rfl wX1_84 ⟨by decide +kernel, by decide +kernel, by decide +kernel⟩ (by decide) ⟨Nat.le_of_ble_eq_true rfl, Nat.le_of_ble_eq_true rfl⟩) (fun _ _ _ _ h => zvs_P h)) znil) znil

theorem mX1_waitedBy : zMet (UC) yX1_waitedBy cX1_waitedBy 2 (some .int) rX1_waitedBy (sX1_waitedBy) := by
  refine zmet (Y := YX1_waitedBy) rfl (by decide +kernel) ?_
  intro av F ok ex h
  unfold sX1_waitedBy at h
  split at h
  · rename_i i
    refine zgo_ok (YX1_waitedBy_ok) zno kX1_waitedBy (List.all_eq_true.mp kX1_waitedBy_ok) 0 _ _ _ _ _ ?_
    exact h
  · exact h.elim

def kX1_priorityOf : List zI := [
  (0, 1, .aload_n 0, [], 0),
  (1, 3, .getfield 39, [], 0),
  (4, 1, .iconst 1, [], 1),
  (5, 3, .if_icmp .ge 7, [12], 0),
  (8, 1, .iconst 0, [], 0),
  (9, 3, .goto 13, [22], 0),
  (12, 1, .aload_n 0, [], 0),
  (13, 1, .iload_n 1, [], 0),
  (14, 3, .invokevirtual 88, [], 0),
  (17, 1, .aload_n 0, [], 0),
  (18, 3, .getfield 39, [], 0),
  (21, 1, .idiv, [], 0),
  (22, 1, .istore_n 2, [], 0),
  (23, 1, .iconst 4, [], 4),
  (24, 1, .aload_n 0, [], 0),
  (25, 3, .getfield 28, [], 0),
  (28, 1, .iload_n 1, [], 0),
  (29, 3, .invokevirtual 91, [], 0),
  (32, 1, .imul, [], 0),
  (33, 1, .iload_n 2, [], 0),
  (34, 1, .iadd, [], 0),
  (35, 1, .ireturn, [], 0)]
theorem kX1_priorityOf_ok : kX1_priorityOf.all (zck cX1_priorityOf) = true := by decide +kernel

def rX1_priorityOf : Room := { frames := 2, cells := 0, slots := 0, locals := 45 }
abbrev YX1_priorityOf : zM := (RX1, cX1_priorityOf, 3, some .int, rX1_priorityOf, UC, zlk fX1, zcs [(88, 2, 0, 0, zvs (UC) 1 (sX1_waitedBy)), (91, 2, 0, 0, zvs (UC) 3 (sX3_greatestRank))] [])
theorem YX1_priorityOf_ok : zYok (YX1_priorityOf) := zYok_of fX1_ok (zall (zcal_mono (zcalV (Y := YX1_priorityOf) (y := yX1_waitedBy) (cc := cX1_waitedBy) (nL := 2) (ret := some .int) (rm := rX1_waitedBy) (mX1_waitedBy) 88 1 1 (T := TX1) rfl wX1_88 ⟨by decide +kernel, by decide +kernel, by decide +kernel⟩ (by decide) ⟨Nat.le_of_ble_eq_true rfl, Nat.le_of_ble_eq_true rfl⟩) (fun _ _ _ _ h => zvs_P h)) (zall (zcal_mono (zcalV (Y := YX1_priorityOf) (y := yX3_greatestRank) (cc := cX3_greatestRank) (nL := 5) (ret := some .int) (rm := rX3_greatestRank) (mX3_greatestRank) 91 1 3 (T := TX3) rfl wX1_91 ⟨by decide +kernel, by decide +kernel, by decide +kernel⟩ (by decide) ⟨Nat.le_of_ble_eq_true rfl, Nat.le_of_ble_eq_true rfl⟩) (fun _ _ _ _ h => zvs_P h)) znil)) znil

theorem mX1_priorityOf : zMet (UC) yX1_priorityOf cX1_priorityOf 3 (some .int) rX1_priorityOf (sX1_priorityOf) := by
  refine zmet (Y := YX1_priorityOf) rfl (by decide +kernel) ?_
  intro av F ok ex h
  unfold sX1_priorityOf at h
  split at h
  · rename_i i
    refine zgo_ok (YX1_priorityOf_ok) zno kX1_priorityOf (List.all_eq_true.mp kX1_priorityOf_ok) 0 _ _ _ _ _ ?_
    refine And.intro (fun h1 => ?_) (fun h1 => ?_)
    · have h1 : 1 ≤ F 0 4 := h1
      refine Exists.intro ?_ ?_
      · intro h2
        have h2 : F 0 4 = 0 := h2
        rw [h2] at h1
        exact absurd h1 (by decide)
      · unfold qPr at h
        rw [if_neg (Int32.not_lt.mpr h1)] at h
        exact h
    · have h1 : ¬ 1 ≤ F 0 4 := h1
      unfold qPr at h
      rw [if_pos (Int32.not_le.mp h1)] at h
      exact h
  · exact h.elim

def kX1_waitingConvoys : List zI := [
  (0, 1, .iconst 0, [], 0),
  (1, 1, .istore_n 1, [], 0),
  (2, 1, .iconst 0, [], 0),
  (3, 1, .istore_n 2, [], 0),
  (4, 1, .iload_n 2, [], 0),
  (5, 1, .aload_n 0, [], 0),
  (6, 3, .getfield 21, [], 0),
  (9, 3, .getfield 72, [], 0),
  (12, 3, .if_icmp .ge 20, [32], 0),
  (15, 1, .iload_n 1, [], 0),
  (16, 1, .aload_n 0, [], 0),
  (17, 3, .getfield 28, [], 0),
  (20, 1, .iload_n 2, [], 0),
  (21, 3, .invokevirtual 94, [], 0),
  (24, 1, .iadd, [], 0),
  (25, 1, .istore_n 1, [], 0),
  (26, 3, .iinc 2 1, [], 1),
  (29, 3, .goto (-25), [4], 0),
  (32, 1, .iload_n 1, [], 0),
  (33, 1, .ireturn, [], 0)]
theorem kX1_waitingConvoys_ok : kX1_waitingConvoys.all (zck cX1_waitingConvoys) = true := by decide +kernel

def rX1_waitingConvoys : Room := { frames := 3, cells := 0, slots := 0, locals := 66 }
abbrev YX1_waitingConvoys : zM := (RX1, cX1_waitingConvoys, 3, some .int, rX1_waitingConvoys, UC, zlk fX1, zcs [(94, 2, 0, 0, zvs (UC) 3 (sX3_convoysAt))] [])
theorem YX1_waitingConvoys_ok : zYok (YX1_waitingConvoys) := zYok_of fX1_ok (zall (zcal_mono (zcalV (Y := YX1_waitingConvoys) (y := yX3_convoysAt) (cc := cX3_convoysAt) (nL := 4) (ret := some .int) (rm := rX3_convoysAt) (mX3_convoysAt) 94 1 3 (T := TX3) rfl wX1_94 ⟨by decide +kernel, by decide +kernel, by decide +kernel⟩ (by decide) ⟨Nat.le_of_ble_eq_true rfl, Nat.le_of_ble_eq_true rfl⟩) (fun _ _ _ _ h => zvs_P h)) znil) znil

theorem lX1_waitingConvoys (ok : zO) (ex : zX) (F : zF) (h : ok (some (.int (qWcv F (F 8 9).toNatClampNeg))) F) : ∀ (d k : Nat), k + d = (F 8 9).toNatClampNeg → zWP YX1_waitingConvoys ok ex 4 [some (.ref 0), some (.int (qWcv F k)), some (.int (nI k))] [] 0 0 F := by
  intro d
  induction d with
  | zero =>
    intro k hk
    have hk : k = (F 8 9).toNatClampNeg := hk
    subst hk
    refine zat_ok YX1_waitingConvoys_ok zno kX1_waitingConvoys (List.all_eq_true.mp kX1_waitingConvoys_ok) 4 _ _ _ _ _ ?_
    exact And.intro (fun _ => h) (fun h1 => absurd (zcnt_ge _) h1)
  | succ d ih =>
    intro k hk
    refine zat_ok YX1_waitingConvoys_ok (inv := zi1 4 (fun ls st kc ks G => zWP YX1_waitingConvoys ok ex 4 ls st kc ks G)) (zone fun _ _ _ _ _ h => h) kX1_waitingConvoys (List.all_eq_true.mp kX1_waitingConvoys_ok) 4 _ _ _ _ _ ?_
    refine And.intro (fun h1 => absurd h1 (zcnt_lt (c := F 8 9) (k := k) (by omega))) (fun h1 => ?_)
    have ih := ih (k + 1) (by omega)
    rw [← nI_1] at ih
    exact ih

theorem mX1_waitingConvoys : zMet (UC) yX1_waitingConvoys cX1_waitingConvoys 3 (some .int) rX1_waitingConvoys (sX1_waitingConvoys) := by
  refine zmet (Y := YX1_waitingConvoys) rfl (by decide +kernel) ?_
  intro av F ok ex h
  unfold sX1_waitingConvoys at h
  split at h
  · refine zgo_ok (YX1_waitingConvoys_ok) (inv := zi1 4 (fun ls st kc ks G => zWP YX1_waitingConvoys ok ex 4 ls st kc ks G)) (zone fun _ _ _ _ _ h => h) kX1_waitingConvoys (List.all_eq_true.mp kX1_waitingConvoys_ok) 0 _ _ _ _ _ ?_
    exact lX1_waitingConvoys ok ex F h _ 0 (Nat.zero_add _)
  · exact h.elim

def kX1_comesBefore : List zI := [
  (0, 1, .aload_n 0, [], 0),
  (1, 1, .iload_n 1, [], 0),
  (2, 3, .invokevirtual 108, [], 0),
  (5, 1, .aload_n 0, [], 0),
  (6, 1, .iload_n 2, [], 0),
  (7, 3, .invokevirtual 108, [], 0),
  (10, 1, .isub, [], 0),
  (11, 1, .istore_n 3, [], 0),
  (12, 1, .iload_n 3, [], 0),
  (13, 3, .ifCond .gt 12, [25], 0),
  (16, 1, .iload_n 3, [], 0),
  (17, 3, .ifCond .ne 12, [29], 0),
  (20, 1, .iload_n 1, [], 0),
  (21, 1, .iload_n 2, [], 0),
  (22, 3, .if_icmp .ge 7, [29], 0),
  (25, 1, .iconst 1, [], 1),
  (26, 3, .goto 4, [30], 0),
  (29, 1, .iconst 0, [], 0),
  (30, 1, .ireturn, [], 0)]
theorem kX1_comesBefore_ok : kX1_comesBefore.all (zck cX1_comesBefore) = true := by decide +kernel

def rX1_comesBefore : Room := { frames := 3, cells := 0, slots := 0, locals := 67 }
abbrev YX1_comesBefore : zM := (RX1, cX1_comesBefore, 4, some .boolean, rX1_comesBefore, UC, zlk fX1, zcs [(108, 2, 0, 0, zvs (UC) 1 (sX1_priorityOf))] [])
theorem YX1_comesBefore_ok : zYok (YX1_comesBefore) := zYok_of fX1_ok (zall (zcal_mono (zcalV (Y := YX1_comesBefore) (y := yX1_priorityOf) (cc := cX1_priorityOf) (nL := 3) (ret := some .int) (rm := rX1_priorityOf) (mX1_priorityOf) 108 1 1 (T := TX1) rfl wX1_108 ⟨by decide +kernel, by decide +kernel, by decide +kernel⟩ (by decide) ⟨Nat.le_of_ble_eq_true rfl, Nat.le_of_ble_eq_true rfl⟩) (fun _ _ _ _ h => zvs_P h)) znil) znil

theorem mX1_comesBefore : zMet (UC) yX1_comesBefore cX1_comesBefore 4 (some .boolean) rX1_comesBefore (sX1_comesBefore) := by
  refine zmet (Y := YX1_comesBefore) rfl (by decide +kernel) ?_
  intro av F ok ex h
  unfold sX1_comesBefore at h
  split at h
  · rename_i a b
    refine zgo_ok (YX1_comesBefore_ok) zno kX1_comesBefore (List.all_eq_true.mp kX1_comesBefore_ok) 0 _ _ _ _ _ ?_
    refine And.intro (fun h1 => ?_) (fun h1 => And.intro (fun h2 => ?_) (fun h2 => And.intro (fun h3 => ?_) (fun h3 => ?_)))
    · exact Exists.intro (Or.inr rfl) (h.1 (Or.inl h1))
    · exact Exists.intro (Or.inl rfl) (h.2 fun hc => hc.elim h1 (fun q => h2 q.1))
    · exact Exists.intro (Or.inl rfl) (h.2 fun hc => hc.elim h1 (fun q => Int32.not_lt.mpr h3 q.2))
    · exact Exists.intro (Or.inr rfl) (h.1 (Or.inr ⟨h2, Int32.not_le.mp h3⟩))
  · exact h.elim

def kX1_convoysAheadOf : List zI := [
  (0, 1, .iconst 0, [], 0),
  (1, 1, .istore_n 3, [], 0),
  (2, 1, .iconst 0, [], 0),
  (3, 2, .istore 4, [], 0),
  (5, 2, .iload 4, [], 0),
  (7, 1, .aload_n 0, [], 0),
  (8, 3, .getfield 28, [], 0),
  (11, 3, .getfield 97, [], 0),
  (14, 3, .if_icmp .ge 40, [54], 0),
  (17, 1, .iload_n 3, [], 0),
  (18, 1, .aload_n 0, [], 0),
  (19, 3, .getfield 28, [], 0),
  (22, 2, .iload 4, [], 0),
  (24, 1, .iload_n 2, [], 0),
  (25, 3, .invokevirtual 98, [], 0),
  (28, 3, .ifCond .eq 17, [45], 0),
  (31, 1, .aload_n 0, [], 0),
  (32, 2, .iload 4, [], 0),
  (34, 1, .iload_n 1, [], 0),
  (35, 3, .invokevirtual 105, [], 0),
  (38, 3, .ifCond .eq 7, [45], 0),
  (41, 1, .iconst 1, [], 1),
  (42, 3, .goto 4, [46], 0),
  (45, 1, .iconst 0, [], 0),
  (46, 1, .iadd, [], 0),
  (47, 1, .istore_n 3, [], 0),
  (48, 3, .iinc 4 1, [], 1),
  (51, 3, .goto (-46), [5], 0),
  (54, 1, .iload_n 3, [], 0),
  (55, 1, .ireturn, [], 0)]
theorem kX1_convoysAheadOf_ok : kX1_convoysAheadOf.all (zck cX1_convoysAheadOf) = true := by decide +kernel

def rX1_convoysAheadOf : Room := { frames := 4, cells := 0, slots := 0, locals := 90 }
abbrev YX1_convoysAheadOf : zM := (RX1, cX1_convoysAheadOf, 5, some .int, rX1_convoysAheadOf, UC, zlk fX1, zcs [(98, 3, 0, 0, zvs (UC) 3 (sX3_isFirstAt)), (105, 3, 0, 0, zvs (UC) 1 (sX1_comesBefore))] [])
theorem YX1_convoysAheadOf_ok : zYok (YX1_convoysAheadOf) := zYok_of fX1_ok (zall (zcal_mono (zcalV (Y := YX1_convoysAheadOf) (y := yX3_isFirstAt) (cc := cX3_isFirstAt) (nL := 3) (ret := some .boolean) (rm := rX3_isFirstAt) (mX3_isFirstAt) 98 2 3 (T := TX3) rfl wX1_98 ⟨by decide +kernel, by decide +kernel, by decide +kernel⟩ (by decide) ⟨Nat.le_of_ble_eq_true rfl, Nat.le_of_ble_eq_true rfl⟩) (fun _ _ _ _ h => zvs_P h)) (zall (zcal_mono (zcalV (Y := YX1_convoysAheadOf) (y := yX1_comesBefore) (cc := cX1_comesBefore) (nL := 4) (ret := some .boolean) (rm := rX1_comesBefore) (mX1_comesBefore) 105 2 1 (T := TX1) rfl wX1_105 ⟨by decide +kernel, by decide +kernel, by decide +kernel⟩ (by decide) ⟨Nat.le_of_ble_eq_true rfl, Nat.le_of_ble_eq_true rfl⟩) (fun _ _ _ _ h => zvs_P h)) znil)) znil

theorem lX1_convoysAheadOf (ok : zO) (ex : zX) (F : zF) (hd l : Int32) (h : ok (some (.int (qCAh F hd l (F 25 9).toNatClampNeg))) F) : ∀ (d k : Nat), k + d = (F 25 9).toNatClampNeg → zWP YX1_convoysAheadOf ok ex 5 [some (.ref 0), some (.int hd), some (.int l), some (.int (qCAh F hd l k)), some (.int (nI k))] [] 0 0 F := by
  intro d
  induction d with
  | zero =>
    intro k hk
    have hk : k = (F 25 9).toNatClampNeg := hk
    subst hk
    refine zat_ok YX1_convoysAheadOf_ok zno kX1_convoysAheadOf (List.all_eq_true.mp kX1_convoysAheadOf_ok) 5 _ _ _ _ _ ?_
    exact And.intro (fun _ => h) (fun h1 => absurd (zcnt_ge _) h1)
  | succ d ih =>
    intro k hk
    refine zat_ok YX1_convoysAheadOf_ok (inv := zi1 5 (fun ls st kc ks G => zWP YX1_convoysAheadOf ok ex 5 ls st kc ks G)) (zone fun _ _ _ _ _ h => h) kX1_convoysAheadOf (List.all_eq_true.mp kX1_convoysAheadOf_ok) 5 _ _ _ _ _ ?_
    refine And.intro (fun h1 => absurd h1 (zcnt_lt (c := F 25 9) (k := k) (by omega))) (fun h1 => ?_)
    have ih := ih (k + 1) (by omega)
    have e : qCAh F hd l (k + 1) = qCAh F hd l k + (if qFA F (nI k) l ∧ qCB F (nI k) hd then 1 else 0) := rfl
    rw [e, ← nI_1] at ih
    refine And.intro (fun hc => ?_) (fun hc => ?_)
    · refine And.intro (fun h0 => absurd h0 (by decide)) (fun _ => ?_)
      refine And.intro (fun hb => ?_) (fun hb => ?_)
      · rw [if_pos ⟨hc, hb⟩] at ih
        exact And.intro (fun h0 => absurd h0 (by decide)) (fun _ => ih)
      · rw [if_neg (fun q => hb q.2)] at ih
        exact And.intro (fun _ => ih) (fun h0 => absurd rfl h0)
    · rw [if_neg (fun q => hc q.1)] at ih
      exact And.intro (fun _ => ih) (fun h0 => absurd rfl h0)

theorem mX1_convoysAheadOf : zMet (UC) yX1_convoysAheadOf cX1_convoysAheadOf 5 (some .int) rX1_convoysAheadOf (sX1_convoysAheadOf) := by
  refine zmet (Y := YX1_convoysAheadOf) rfl (by decide +kernel) ?_
  intro av F ok ex h
  unfold sX1_convoysAheadOf at h
  split at h
  · rename_i hd l
    refine zgo_ok (YX1_convoysAheadOf_ok) (inv := zi1 5 (fun ls st kc ks G => zWP YX1_convoysAheadOf ok ex 5 ls st kc ks G)) (zone fun _ _ _ _ _ h => h) kX1_convoysAheadOf (List.all_eq_true.mp kX1_convoysAheadOf_ok) 0 _ _ _ _ _ ?_
    exact lX1_convoysAheadOf ok ex F hd l h _ 0 (Nat.zero_add _)
  · exact h.elim

def kX1_convoyInOrder : List zI := [
  (0, 1, .iconst 0, [], 0),
  (1, 1, .istore_n 3, [], 0),
  (2, 1, .iload_n 3, [], 0),
  (3, 1, .aload_n 0, [], 0),
  (4, 3, .getfield 28, [], 0),
  (7, 3, .getfield 97, [], 0),
  (10, 3, .if_icmp .ge 33, [43], 0),
  (13, 1, .aload_n 0, [], 0),
  (14, 3, .getfield 28, [], 0),
  (17, 1, .iload_n 3, [], 0),
  (18, 1, .iload_n 1, [], 0),
  (19, 3, .invokevirtual 98, [], 0),
  (22, 3, .ifCond .eq 15, [37], 0),
  (25, 1, .aload_n 0, [], 0),
  (26, 1, .iload_n 3, [], 0),
  (27, 1, .iload_n 1, [], 0),
  (28, 3, .invokevirtual 102, [], 0),
  (31, 1, .iload_n 2, [], 0),
  (32, 3, .if_icmp .ne 5, [37], 0),
  (35, 1, .iload_n 3, [], 0),
  (36, 1, .ireturn, [], 0),
  (37, 3, .iinc 3 1, [], 1),
  (40, 3, .goto (-38), [2], 0),
  (43, 1, .iconst (-1), [], (-1)),
  (44, 1, .ireturn, [], 0)]
theorem kX1_convoyInOrder_ok : kX1_convoyInOrder.all (zck cX1_convoyInOrder) = true := by decide +kernel

def rX1_convoyInOrder : Room := { frames := 5, cells := 0, slots := 0, locals := 114 }
abbrev YX1_convoyInOrder : zM := (RX1, cX1_convoyInOrder, 4, some .int, rX1_convoyInOrder, UC, zlk fX1, zcs [(98, 3, 0, 0, zvs (UC) 3 (sX3_isFirstAt)), (102, 3, 0, 0, zvs (UC) 1 (sX1_convoysAheadOf))] [])
theorem YX1_convoyInOrder_ok : zYok (YX1_convoyInOrder) := zYok_of fX1_ok (zall (zcal_mono (zcalV (Y := YX1_convoyInOrder) (y := yX3_isFirstAt) (cc := cX3_isFirstAt) (nL := 3) (ret := some .boolean) (rm := rX3_isFirstAt) (mX3_isFirstAt) 98 2 3 (T := TX3) rfl wX1_98 ⟨by decide +kernel, by decide +kernel, by decide +kernel⟩ (by decide) ⟨Nat.le_of_ble_eq_true rfl, Nat.le_of_ble_eq_true rfl⟩) (fun _ _ _ _ h => zvs_P h)) (zall (zcal_mono (zcalV (Y := YX1_convoyInOrder) (y := yX1_convoysAheadOf) (cc := cX1_convoysAheadOf) (nL := 5) (ret := some .int) (rm := rX1_convoysAheadOf) (mX1_convoysAheadOf) 102 2 1 (T := TX1) rfl wX1_102 ⟨by decide +kernel, by decide +kernel, by decide +kernel⟩ (by decide) ⟨Nat.le_of_ble_eq_true rfl, Nat.le_of_ble_eq_true rfl⟩) (fun _ _ _ _ h => zvs_P h)) znil)) znil

theorem lX1_convoyInOrder (ok : zO) (ex : zX) (F : zF) (l x : Int32) : ∀ (d k : Nat), k + d = (F 25 9).toNatClampNeg → ok (some (.int (qCIO F l x d k))) F → zWP YX1_convoyInOrder ok ex 2 [some (.ref 0), some (.int l), some (.int x), some (.int (nI k))] [] 0 0 F := by
  intro d
  induction d with
  | zero =>
    intro k hk h
    have hk : k = (F 25 9).toNatClampNeg := hk
    subst hk
    refine zat_ok YX1_convoyInOrder_ok zno kX1_convoyInOrder (List.all_eq_true.mp kX1_convoyInOrder_ok) 2 _ _ _ _ _ ?_
    exact And.intro (fun _ => h) (fun h1 => absurd (zcnt_ge _) h1)
  | succ d ih =>
    intro k hk h
    refine zat_ok YX1_convoyInOrder_ok (inv := zi1 2 (fun ls st kc ks G => zWP YX1_convoyInOrder ok ex 2 ls st kc ks G)) (zone fun _ _ _ _ _ h => h) kX1_convoyInOrder (List.all_eq_true.mp kX1_convoyInOrder_ok) 2 _ _ _ _ _ ?_
    refine And.intro (fun h1 => absurd h1 (zcnt_lt (c := F 25 9) (k := k) (by omega))) (fun h1 => ?_)
    have e : qCIO F l x (d + 1) k = if qFA F (nI k) l ∧ qCAh F (nI k) l (F 25 9).toNatClampNeg = x then nI k else qCIO F l x d (k + 1) := rfl
    rw [e] at h
    refine And.intro (fun hc => ?_) (fun hc => ?_)
    · refine And.intro (fun h0 => absurd h0 (by decide)) (fun _ => ?_)
      refine And.intro (fun hb => ?_) (fun hb => ?_)
      · rw [if_neg (fun q => hb q.2)] at h
        have := ih (k + 1) (by omega) h
        rw [← nI_1] at this
        exact this
      · rw [if_pos ⟨hc, hb⟩] at h
        exact h
    · rw [if_neg (fun q => hc q.1)] at h
      have := ih (k + 1) (by omega) h
      rw [← nI_1] at this
      exact And.intro (fun _ => this) (fun h0 => absurd rfl h0)

theorem mX1_convoyInOrder : zMet (UC) yX1_convoyInOrder cX1_convoyInOrder 4 (some .int) rX1_convoyInOrder (sX1_convoyInOrder) := by
  refine zmet (Y := YX1_convoyInOrder) rfl (by decide +kernel) ?_
  intro av F ok ex h
  unfold sX1_convoyInOrder at h
  split at h
  · rename_i l x
    refine zgo_ok (YX1_convoyInOrder_ok) (inv := zi1 2 (fun ls st kc ks G => zWP YX1_convoyInOrder ok ex 2 ls st kc ks G)) (zone fun _ _ _ _ _ h => h) kX1_convoyInOrder (List.all_eq_true.mp kX1_convoyInOrder_ok) 0 _ _ _ _ _ ?_
    exact lX1_convoyInOrder ok ex F l x _ 0 (Nat.zero_add _) h
  · exact h.elim

def kX1_hindranceByRules : List zI := [
  (0, 1, .aload_n 0, [], 0),
  (1, 3, .getfield 21, [], 0),
  (4, 3, .getfield 124, [], 0),
  (7, 1, .iload_n 2, [], 0),
  (8, 3, .invokevirtual 84, [], 0),
  (11, 1, .istore_n 3, [], 0),
  (12, 1, .aload_n 0, [], 0),
  (13, 3, .getfield 35, [], 0),
  (16, 1, .aload_n 0, [], 0),
  (17, 3, .getfield 28, [], 0),
  (20, 1, .iload_n 1, [], 0),
  (21, 1, .iload_n 3, [], 0),
  (22, 3, .invokevirtual 127, [], 0),
  (25, 1, .aload_n 0, [], 0),
  (26, 3, .getfield 35, [], 0),
  (29, 3, .getfield 131, [], 0),
  (32, 3, .ifCond .ne 5, [37], 0),
  (35, 1, .iconst 1, [], 1),
  (36, 1, .ireturn, [], 0),
  (37, 1, .aload_n 0, [], 0),
  (38, 3, .getfield 12, [], 0),
  (41, 1, .iload_n 2, [], 0),
  (42, 3, .invokevirtual 134, [], 0),
  (45, 1, .aload_n 0, [], 0),
  (46, 3, .getfield 35, [], 0),
  (49, 3, .getfield 137, [], 0),
  (52, 3, .if_icmp .lt 23, [75], 0),
  (55, 1, .aload_n 0, [], 0),
  (56, 3, .getfield 12, [], 0),
  (59, 1, .iload_n 2, [], 0),
  (60, 1, .iconst 1, [], 1),
  (61, 1, .iadd, [], 0),
  (62, 3, .invokevirtual 134, [], 0),
  (65, 1, .aload_n 0, [], 0),
  (66, 3, .getfield 35, [], 0),
  (69, 3, .getfield 137, [], 0),
  (72, 3, .if_icmp .ge 5, [77], 0),
  (75, 1, .iconst 2, [], 2),
  (76, 1, .ireturn, [], 0),
  (77, 1, .aload_n 0, [], 0),
  (78, 3, .getfield 35, [], 0),
  (81, 1, .aload_n 0, [], 0),
  (82, 3, .getfield 12, [], 0),
  (85, 1, .iload_n 2, [], 0),
  (86, 3, .invokevirtual 140, [], 0),
  (89, 1, .iload_n 3, [], 0),
  (90, 1, .aload_n 0, [], 0),
  (91, 1, .iload_n 1, [], 0),
  (92, 3, .invokevirtual 88, [], 0),
  (95, 1, .aload_n 0, [], 0),
  (96, 3, .getfield 43, [], 0),
  (99, 3, .if_icmp .lt 7, [106], 0),
  (102, 1, .iconst 1, [], 1),
  (103, 3, .goto 4, [107], 0),
  (106, 1, .iconst 0, [], 0),
  (107, 3, .invokevirtual 143, [], 0),
  (110, 2, .istore 4, [], 0),
  (112, 2, .iload 4, [], 0),
  (114, 3, .ifCond .eq 7, [121], 0),
  (117, 1, .iconst 3, [], 3),
  (118, 3, .goto 4, [122], 0),
  (121, 1, .iconst 0, [], 0),
  (122, 1, .ireturn, [], 0)]
theorem kX1_hindranceByRules_ok : kX1_hindranceByRules.all (zck cX1_hindranceByRules) = true := by decide +kernel

def rX1_hindranceByRules : Room := { frames := 2, cells := 0, slots := 0, locals := 45 }
abbrev YX1_hindranceByRules : zM := (RX1, cX1_hindranceByRules, 5, some .int, rX1_hindranceByRules, UC, zlk fX1, zcs [(84, 2, 0, 0, zvs (UC) 7 (sU_at UC)), (127, 4, 0, 0, zvs (UC) 4 (sX4_lookAt)), (134, 2, 0, 0, zvs (UC) 6 (sX6_levelOf)), (140, 2, 0, 0, zvs (UC) 6 (sX6_drynessOf)), (88, 2, 0, 0, zvs (UC) 1 (sX1_waitedBy)), (143, 4, 0, 0, zvs (UC) 4 (sX4_isHeldBack))] [])
theorem YX1_hindranceByRules_ok : zYok (YX1_hindranceByRules) := zYok_of fX1_ok (zall (zcal_mono (zcalV (Y := YX1_hindranceByRules) (y := yX7_at) (cc := cX7_at) (nL := 2) (ret := some .int) (rm := rX7_at) (mU_at UC UC_small) 84 1 7 (T := TX7) rfl wX1_84 ⟨by decide +kernel, by decide +kernel, by decide +kernel⟩ (by decide) ⟨Nat.le_of_ble_eq_true rfl, Nat.le_of_ble_eq_true rfl⟩) (fun _ _ _ _ h => zvs_P h)) (zall (zcal_mono (zcalV (Y := YX1_hindranceByRules) (y := yX4_lookAt) (cc := cX4_lookAt) (nL := 5) (ret := none) (rm := rX4_lookAt) (mX4_lookAt) 127 3 4 (T := TX4) rfl wX1_127 ⟨by decide +kernel, by decide +kernel, by decide +kernel⟩ (by decide) ⟨Nat.le_of_ble_eq_true rfl, Nat.le_of_ble_eq_true rfl⟩) (fun _ _ _ _ h => zvs_P h)) (zall (zcal_mono (zcalV (Y := YX1_hindranceByRules) (y := yX6_levelOf) (cc := cX6_levelOf) (nL := 3) (ret := some .int) (rm := rX6_levelOf) (mX6_levelOf) 134 1 6 (T := TX6) rfl wX1_134 ⟨by decide +kernel, by decide +kernel, by decide +kernel⟩ (by decide) ⟨Nat.le_of_ble_eq_true rfl, Nat.le_of_ble_eq_true rfl⟩) (fun _ _ _ _ h => zvs_P h)) (zall (zcal_mono (zcalV (Y := YX1_hindranceByRules) (y := yX6_drynessOf) (cc := cX6_drynessOf) (nL := 3) (ret := some .int) (rm := rX6_drynessOf) (mX6_drynessOf) 140 1 6 (T := TX6) rfl wX1_140 ⟨by decide +kernel, by decide +kernel, by decide +kernel⟩ (by decide) ⟨Nat.le_of_ble_eq_true rfl, Nat.le_of_ble_eq_true rfl⟩) (fun _ _ _ _ h => zvs_P h)) (zall (zcal_mono (zcalV (Y := YX1_hindranceByRules) (y := yX1_waitedBy) (cc := cX1_waitedBy) (nL := 2) (ret := some .int) (rm := rX1_waitedBy) (mX1_waitedBy) 88 1 1 (T := TX1) rfl wX1_88 ⟨by decide +kernel, by decide +kernel, by decide +kernel⟩ (by decide) ⟨Nat.le_of_ble_eq_true rfl, Nat.le_of_ble_eq_true rfl⟩) (fun _ _ _ _ h => zvs_P h)) (zall (zcal_mono (zcalV (Y := YX1_hindranceByRules) (y := yX4_isHeldBack) (cc := cX4_isHeldBack) (nL := 4) (ret := some .boolean) (rm := rX4_isHeldBack) (mX4_isHeldBack) 143 3 4 (T := TX4) rfl wX1_143 ⟨by decide +kernel, by decide +kernel, by decide +kernel⟩ (by decide) ⟨Nat.le_of_ble_eq_true rfl, Nat.le_of_ble_eq_true rfl⟩) (fun _ _ _ _ h => zvs_P h)) znil)))))) znil

theorem mX1_hindranceByRules : zMet (UC) yX1_hindranceByRules cX1_hindranceByRules 5 (some .int) rX1_hindranceByRules (sX1_hindranceByRules) := by
  refine zmet (Y := YX1_hindranceByRules) rfl (by decide +kernel) ?_
  intro av F ok ex h
  unfold sX1_hindranceByRules at h
  split at h
  · rename_i hd l
    refine zgo_ok (YX1_hindranceByRules_ok) zno kX1_hindranceByRules (List.all_eq_true.mp kX1_hindranceByRules_ok) 0 _ _ _ _ _ ?_
    generalize hG : qLook F hd (qLen F l) = G at h
    have e : qLook F hd (zrd 4 (F (9 + 1)) l) = G := hG
    have q5 : G 0 5 = F 0 5 ∨ True := Or.inr trivial
    unfold qHR at h
    refine Eq.mp (congrArg (fun z => zgo YX1_hindranceByRules ok ex zi0 (kX1_hindranceByRules.drop 12) 25 [some (.ref 0), some (.int hd), some (.int l), some (.int (zrd 4 (F (9 + 1)) l)), none] [] 0 0 z) e.symm) ?_
    refine And.intro (fun h1 => ?_) (fun h1 => ?_)
    · rw [if_neg h1] at h
      refine And.intro (fun h2 => ?_) (fun h2 => And.intro (fun h3 => ?_) (fun h3 => ?_))
      · rw [if_pos (Or.inl h2)] at h
        exact h
      · rw [if_neg (fun q => q.elim h2 (Int32.not_lt.mpr h3))] at h
        refine And.intro (fun h4 => ?_) (fun h4 => ?_)
        · have h4 : qWt G hd < G 0 5 := h4
          rw [if_pos h4] at h
          refine And.intro (fun h5 => ?_) (fun h5 => ?_)
          · rw [if_pos h5] at h
            exact And.intro (fun h0 => absurd h0 (by decide)) (fun _ => h)
          · rw [if_neg h5] at h
            exact And.intro (fun _ => h) (fun h0 => absurd rfl h0)
        · have h4 : ¬ qWt G hd < G 0 5 := h4
          rw [if_neg h4] at h
          refine And.intro (fun h5 => ?_) (fun h5 => ?_)
          · rw [if_pos h5] at h
            exact And.intro (fun h0 => absurd h0 (by decide)) (fun _ => h)
          · rw [if_neg h5] at h
            exact And.intro (fun _ => h) (fun h0 => absurd rfl h0)
      · rw [if_pos (Or.inr (Int32.not_le.mp h3))] at h
        exact h
    · rw [if_pos h1] at h
      exact h
  · exact h.elim

def kX1_canBeReadyForDown : List zI := [
  (0, 1, .aload_n 0, [], 0),
  (1, 3, .getfield 21, [], 0),
  (4, 1, .iload_n 1, [], 0),
  (5, 3, .invokevirtual 147, [], 0),
  (8, 3, .ifCond .ne 25, [33], 0),
  (11, 1, .aload_n 0, [], 0),
  (12, 3, .getfield 12, [], 0),
  (15, 3, .getfield 150, [], 0),
  (18, 1, .iload_n 1, [], 0),
  (19, 3, .invokevirtual 84, [], 0),
  (22, 1, .aload_n 0, [], 0),
  (23, 3, .getfield 21, [], 0),
  (26, 1, .iload_n 1, [], 0),
  (27, 3, .invokevirtual 153, [], 0),
  (30, 3, .if_icmp .lt 7, [37], 0),
  (33, 1, .iconst 1, [], 1),
  (34, 3, .goto 4, [38], 0),
  (37, 1, .iconst 0, [], 0),
  (38, 1, .ireturn, [], 0)]
theorem kX1_canBeReadyForDown_ok : kX1_canBeReadyForDown.all (zck cX1_canBeReadyForDown) = true := by decide +kernel

def rX1_canBeReadyForDown : Room := { frames := 3, cells := 0, slots := 0, locals := 63 }
abbrev YX1_canBeReadyForDown : zM := (RX1, cX1_canBeReadyForDown, 2, some .boolean, rX1_canBeReadyForDown, UC, zlk fX1, zcs [(147, 2, 0, 0, zvs (UC) 5 (sX5_isFull)), (84, 2, 0, 0, zvs (UC) 7 (sU_at UC)), (153, 2, 0, 0, zvs (UC) 5 (sX5_lackingToFill))] [])
theorem YX1_canBeReadyForDown_ok : zYok (YX1_canBeReadyForDown) := zYok_of fX1_ok (zall (zcal_mono (zcalV (Y := YX1_canBeReadyForDown) (y := yX5_isFull) (cc := cX5_isFull) (nL := 2) (ret := some .boolean) (rm := rX5_isFull) (mX5_isFull) 147 1 5 (T := TX5) rfl wX1_147 ⟨by decide +kernel, by decide +kernel, by decide +kernel⟩ (by decide) ⟨Nat.le_of_ble_eq_true rfl, Nat.le_of_ble_eq_true rfl⟩) (fun _ _ _ _ h => zvs_P h)) (zall (zcal_mono (zcalV (Y := YX1_canBeReadyForDown) (y := yX7_at) (cc := cX7_at) (nL := 2) (ret := some .int) (rm := rX7_at) (mU_at UC UC_small) 84 1 7 (T := TX7) rfl wX1_84 ⟨by decide +kernel, by decide +kernel, by decide +kernel⟩ (by decide) ⟨Nat.le_of_ble_eq_true rfl, Nat.le_of_ble_eq_true rfl⟩) (fun _ _ _ _ h => zvs_P h)) (zall (zcal_mono (zcalV (Y := YX1_canBeReadyForDown) (y := yX5_lackingToFill) (cc := cX5_lackingToFill) (nL := 2) (ret := some .int) (rm := rX5_lackingToFill) (mX5_lackingToFill) 153 1 5 (T := TX5) rfl wX1_153 ⟨by decide +kernel, by decide +kernel, by decide +kernel⟩ (by decide) ⟨Nat.le_of_ble_eq_true rfl, Nat.le_of_ble_eq_true rfl⟩) (fun _ _ _ _ h => zvs_P h)) znil))) znil

theorem mX1_canBeReadyForDown : zMet (UC) yX1_canBeReadyForDown cX1_canBeReadyForDown 2 (some .boolean) rX1_canBeReadyForDown (sX1_canBeReadyForDown) := by
  refine zmet (Y := YX1_canBeReadyForDown) rfl (by decide +kernel) ?_
  intro av F ok ex h
  unfold sX1_canBeReadyForDown at h
  split at h
  · rename_i l
    refine zgo_ok (YX1_canBeReadyForDown_ok) zno kX1_canBeReadyForDown (List.all_eq_true.mp kX1_canBeReadyForDown_ok) 0 _ _ _ _ _ ?_
    refine And.intro (fun h1 => ?_) (fun h1 => ?_)
    · exact And.intro (fun _ => Exists.intro (Or.inr rfl) (h.1 (Or.inl h1))) (fun h0 => absurd h0 (by decide))
    · refine And.intro (fun h0 => absurd rfl h0) (fun _ => And.intro (fun h2 => ?_) (fun h2 => ?_))
      · exact Exists.intro (Or.inl rfl) (h.2 fun hc => hc.elim h1 (fun q => Int32.not_lt.mpr q h2))
      · exact Exists.intro (Or.inr rfl) (h.1 (Or.inr (Int32.not_lt.mp h2)))
  · exact h.elim

def kX1_canFillForUp : List zI := [
  (0, 1, .aload_n 0, [], 0),
  (1, 3, .getfield 21, [], 0),
  (4, 3, .getfield 156, [], 0),
  (7, 1, .iload_n 1, [], 0),
  (8, 3, .invokevirtual 84, [], 0),
  (11, 1, .aload_n 0, [], 0),
  (12, 3, .getfield 21, [], 0),
  (15, 3, .getfield 159, [], 0),
  (18, 1, .iload_n 1, [], 0),
  (19, 3, .invokevirtual 84, [], 0),
  (22, 1, .imul, [], 0),
  (23, 1, .istore_n 2, [], 0),
  (24, 1, .aload_n 0, [], 0),
  (25, 3, .getfield 21, [], 0),
  (28, 1, .iload_n 1, [], 0),
  (29, 3, .invokevirtual 147, [], 0),
  (32, 3, .ifCond .eq 19, [51], 0),
  (35, 1, .aload_n 0, [], 0),
  (36, 3, .getfield 21, [], 0),
  (39, 3, .getfield 162, [], 0),
  (42, 1, .iload_n 1, [], 0),
  (43, 3, .invokevirtual 84, [], 0),
  (46, 1, .iload_n 2, [], 0),
  (47, 1, .isub, [], 0),
  (48, 3, .goto 11, [59], 0),
  (51, 1, .aload_n 0, [], 0),
  (52, 3, .getfield 21, [], 0),
  (55, 1, .iload_n 1, [], 0),
  (56, 3, .invokevirtual 153, [], 0),
  (59, 1, .istore_n 3, [], 0),
  (60, 1, .aload_n 0, [], 0),
  (61, 3, .getfield 12, [], 0),
  (64, 3, .getfield 150, [], 0),
  (67, 1, .iload_n 1, [], 0),
  (68, 3, .invokevirtual 84, [], 0),
  (71, 1, .iload_n 3, [], 0),
  (72, 3, .if_icmp .lt 7, [79], 0),
  (75, 1, .iconst 1, [], 1),
  (76, 3, .goto 4, [80], 0),
  (79, 1, .iconst 0, [], 0),
  (80, 1, .ireturn, [], 0)]
theorem kX1_canFillForUp_ok : kX1_canFillForUp.all (zck cX1_canFillForUp) = true := by decide +kernel

def rX1_canFillForUp : Room := { frames := 3, cells := 0, slots := 0, locals := 63 }
abbrev YX1_canFillForUp : zM := (RX1, cX1_canFillForUp, 4, some .boolean, rX1_canFillForUp, UC, zlk fX1, zcs [(84, 2, 0, 0, zvs (UC) 7 (sU_at UC)), (147, 2, 0, 0, zvs (UC) 5 (sX5_isFull)), (153, 2, 0, 0, zvs (UC) 5 (sX5_lackingToFill))] [])
theorem YX1_canFillForUp_ok : zYok (YX1_canFillForUp) := zYok_of fX1_ok (zall (zcal_mono (zcalV (Y := YX1_canFillForUp) (y := yX7_at) (cc := cX7_at) (nL := 2) (ret := some .int) (rm := rX7_at) (mU_at UC UC_small) 84 1 7 (T := TX7) rfl wX1_84 ⟨by decide +kernel, by decide +kernel, by decide +kernel⟩ (by decide) ⟨Nat.le_of_ble_eq_true rfl, Nat.le_of_ble_eq_true rfl⟩) (fun _ _ _ _ h => zvs_P h)) (zall (zcal_mono (zcalV (Y := YX1_canFillForUp) (y := yX5_isFull) (cc := cX5_isFull) (nL := 2) (ret := some .boolean) (rm := rX5_isFull) (mX5_isFull) 147 1 5 (T := TX5) rfl wX1_147 ⟨by decide +kernel, by decide +kernel, by decide +kernel⟩ (by decide) ⟨Nat.le_of_ble_eq_true rfl, Nat.le_of_ble_eq_true rfl⟩) (fun _ _ _ _ h => zvs_P h)) (zall (zcal_mono (zcalV (Y := YX1_canFillForUp) (y := yX5_lackingToFill) (cc := cX5_lackingToFill) (nL := 2) (ret := some .int) (rm := rX5_lackingToFill) (mX5_lackingToFill) 153 1 5 (T := TX5) rfl wX1_153 ⟨by decide +kernel, by decide +kernel, by decide +kernel⟩ (by decide) ⟨Nat.le_of_ble_eq_true rfl, Nat.le_of_ble_eq_true rfl⟩) (fun _ _ _ _ h => zvs_P h)) znil))) znil

theorem mX1_canFillForUp : zMet (UC) yX1_canFillForUp cX1_canFillForUp 4 (some .boolean) rX1_canFillForUp (sX1_canFillForUp) := by
  refine zmet (Y := YX1_canFillForUp) rfl (by decide +kernel) ?_
  intro av F ok ex h
  unfold sX1_canFillForUp at h
  split at h
  · rename_i l
    refine zgo_ok (YX1_canFillForUp_ok) zno kX1_canFillForUp (List.all_eq_true.mp kX1_canFillForUp_ok) 0 _ _ _ _ _ ?_
    unfold qCFU qLkU at h
    refine And.intro (fun h1 => ?_) (fun h1 => ?_)
    · rw [if_pos h1] at h
      refine And.intro (fun h0 => absurd h0 (by decide)) (fun _ => And.intro (fun h2 => ?_) (fun h2 => ?_))
      · exact Exists.intro (Or.inl rfl) (h.2 fun hc => Int32.not_lt.mpr hc h2)
      · exact Exists.intro (Or.inr rfl) (h.1 (Int32.not_lt.mp h2))
    · rw [if_neg h1] at h
      refine And.intro (fun _ => And.intro (fun h2 => ?_) (fun h2 => ?_)) (fun h0 => absurd rfl h0)
      · exact Exists.intro (Or.inl rfl) (h.2 fun hc => Int32.not_lt.mpr hc h2)
      · exact Exists.intro (Or.inr rfl) (h.1 (Int32.not_lt.mp h2))
  · exact h.elim

def kX1_hindranceOf : List zI := [
  (0, 1, .aload_n 0, [], 0),
  (1, 3, .getfield 28, [], 0),
  (4, 3, .getfield 68, [], 0),
  (7, 1, .iload_n 1, [], 0),
  (8, 3, .invokevirtual 84, [], 0),
  (11, 1, .istore_n 2, [], 0),
  (12, 1, .aload_n 0, [], 0),
  (13, 1, .iload_n 1, [], 0),
  (14, 1, .iload_n 2, [], 0),
  (15, 3, .invokevirtual 111, [], 0),
  (18, 1, .istore_n 3, [], 0),
  (19, 1, .iload_n 3, [], 0),
  (20, 3, .ifCond .eq 5, [25], 0),
  (23, 1, .iload_n 3, [], 0),
  (24, 1, .ireturn, [], 0),
  (25, 1, .aload_n 0, [], 0),
  (26, 3, .getfield 28, [], 0),
  (29, 1, .iload_n 1, [], 0),
  (30, 3, .invokevirtual 114, [], 0),
  (33, 3, .ifCond .eq 11, [44], 0),
  (36, 1, .aload_n 0, [], 0),
  (37, 1, .iload_n 2, [], 0),
  (38, 3, .invokevirtual 118, [], 0),
  (41, 3, .goto 8, [49], 0),
  (44, 1, .aload_n 0, [], 0),
  (45, 1, .iload_n 2, [], 0),
  (46, 3, .invokevirtual 121, [], 0),
  (49, 2, .istore 4, [], 0),
  (51, 2, .iload 4, [], 0),
  (53, 3, .ifCond .eq 7, [60], 0),
  (56, 1, .iconst 0, [], 0),
  (57, 3, .goto 4, [61], 0),
  (60, 1, .iconst 4, [], 4),
  (61, 1, .ireturn, [], 0)]
theorem kX1_hindranceOf_ok : kX1_hindranceOf.all (zck cX1_hindranceOf) = true := by decide +kernel

def rX1_hindranceOf : Room := { frames := 4, cells := 0, slots := 0, locals := 86 }
abbrev YX1_hindranceOf : zM := (RX1, cX1_hindranceOf, 5, some .int, rX1_hindranceOf, UC, zlk fX1, zcs [(84, 2, 0, 0, zvs (UC) 7 (sU_at UC)), (111, 3, 0, 0, zvs (UC) 1 (sX1_hindranceByRules)), (114, 2, 0, 0, zvs (UC) 3 (sX3_goesUp)), (118, 2, 0, 0, zvs (UC) 1 (sX1_canFillForUp)), (121, 2, 0, 0, zvs (UC) 1 (sX1_canBeReadyForDown))] [])
theorem YX1_hindranceOf_ok : zYok (YX1_hindranceOf) := zYok_of fX1_ok (zall (zcal_mono (zcalV (Y := YX1_hindranceOf) (y := yX7_at) (cc := cX7_at) (nL := 2) (ret := some .int) (rm := rX7_at) (mU_at UC UC_small) 84 1 7 (T := TX7) rfl wX1_84 ⟨by decide +kernel, by decide +kernel, by decide +kernel⟩ (by decide) ⟨Nat.le_of_ble_eq_true rfl, Nat.le_of_ble_eq_true rfl⟩) (fun _ _ _ _ h => zvs_P h)) (zall (zcal_mono (zcalV (Y := YX1_hindranceOf) (y := yX1_hindranceByRules) (cc := cX1_hindranceByRules) (nL := 5) (ret := some .int) (rm := rX1_hindranceByRules) (mX1_hindranceByRules) 111 2 1 (T := TX1) rfl wX1_111 ⟨by decide +kernel, by decide +kernel, by decide +kernel⟩ (by decide) ⟨Nat.le_of_ble_eq_true rfl, Nat.le_of_ble_eq_true rfl⟩) (fun _ _ _ _ h => zvs_P h)) (zall (zcal_mono (zcalV (Y := YX1_hindranceOf) (y := yX3_goesUp) (cc := cX3_goesUp) (nL := 2) (ret := some .boolean) (rm := rX3_goesUp) (mX3_goesUp) 114 1 3 (T := TX3) rfl wX1_114 ⟨by decide +kernel, by decide +kernel, by decide +kernel⟩ (by decide) ⟨Nat.le_of_ble_eq_true rfl, Nat.le_of_ble_eq_true rfl⟩) (fun _ _ _ _ h => zvs_P h)) (zall (zcal_mono (zcalV (Y := YX1_hindranceOf) (y := yX1_canFillForUp) (cc := cX1_canFillForUp) (nL := 4) (ret := some .boolean) (rm := rX1_canFillForUp) (mX1_canFillForUp) 118 1 1 (T := TX1) rfl wX1_118 ⟨by decide +kernel, by decide +kernel, by decide +kernel⟩ (by decide) ⟨Nat.le_of_ble_eq_true rfl, Nat.le_of_ble_eq_true rfl⟩) (fun _ _ _ _ h => zvs_P h)) (zall (zcal_mono (zcalV (Y := YX1_hindranceOf) (y := yX1_canBeReadyForDown) (cc := cX1_canBeReadyForDown) (nL := 2) (ret := some .boolean) (rm := rX1_canBeReadyForDown) (mX1_canBeReadyForDown) 121 1 1 (T := TX1) rfl wX1_121 ⟨by decide +kernel, by decide +kernel, by decide +kernel⟩ (by decide) ⟨Nat.le_of_ble_eq_true rfl, Nat.le_of_ble_eq_true rfl⟩) (fun _ _ _ _ h => zvs_P h)) znil))))) znil

theorem mX1_hindranceOf : zMet (UC) yX1_hindranceOf cX1_hindranceOf 5 (some .int) rX1_hindranceOf (sX1_hindranceOf) := by
  refine zmet (Y := YX1_hindranceOf) rfl (by decide +kernel) ?_
  intro av F ok ex h
  unfold sX1_hindranceOf at h
  split at h
  · rename_i hd
    refine zgo_ok (YX1_hindranceOf_ok) zno kX1_hindranceOf (List.all_eq_true.mp kX1_hindranceOf_ok) 0 _ _ _ _ _ ?_
    generalize hG : qLook F hd (qLen F (qWa F hd)) = G at h
    unfold qHO at h
    refine And.intro (fun h1 => ?_) (fun h1 => ?_)
    · have h1 : qHR F (qLook F hd (qLen F (qWa F hd))) hd (qWa F hd) = 0 := h1
      have e : zrd 16 (F (34 + 1)) hd = qWa F hd := rfl
      rw [hG] at h1
      rw [if_pos h1] at h
      subst hG
      refine And.intro (fun h2 => And.intro (fun h0 => absurd h0 (by decide)) (fun _ => And.intro (fun h3 => ?_) (fun h3 => ?_))) (fun h2 => And.intro (fun _ => And.intro (fun h3 => ?_) (fun h3 => ?_)) (fun h0 => absurd rfl h0))
      · rw [if_pos (Or.inl ⟨h2, h3⟩)] at h
        exact And.intro (fun h0 => absurd h0 (by decide)) (fun _ => h)
      · rw [if_neg (fun q => q.elim (fun z => h3 z.2) (fun z => z.1 h2))] at h
        exact And.intro (fun _ => h) (fun h0 => absurd rfl h0)
      · rw [if_pos (Or.inr ⟨h2, h3⟩)] at h
        exact And.intro (fun h0 => absurd h0 (by decide)) (fun _ => h)
      · rw [if_neg (fun q => q.elim (fun z => h2 z.1) (fun z => h3 z.2))] at h
        exact And.intro (fun _ => h) (fun h0 => absurd rfl h0)
    · have h1 : ¬ qHR F (qLook F hd (qLen F (qWa F hd))) hd (qWa F hd) = 0 := h1
      rw [hG] at h1
      rw [if_neg h1] at h
      subst hG
      exact h
  · exact h.elim

def kX1_wasLockedNow : List zI := [
  (0, 1, .aload_n 0, [], 0),
  (1, 3, .getfield 28, [], 0),
  (4, 3, .getfield 81, [], 0),
  (7, 1, .iload_n 1, [], 0),
  (8, 3, .invokevirtual 84, [], 0),
  (11, 1, .aload_n 0, [], 0),
  (12, 3, .getfield 49, [], 0),
  (15, 3, .if_icmp .le 7, [22], 0),
  (18, 1, .iconst 1, [], 1),
  (19, 3, .goto 4, [23], 0),
  (22, 1, .iconst 0, [], 0),
  (23, 1, .ireturn, [], 0)]
theorem kX1_wasLockedNow_ok : kX1_wasLockedNow.all (zck cX1_wasLockedNow) = true := by decide +kernel

def rX1_wasLockedNow : Room := { frames := 1, cells := 0, slots := 0, locals := 21 }
abbrev YX1_wasLockedNow : zM := (RX1, cX1_wasLockedNow, 2, some .boolean, rX1_wasLockedNow, UC, zlk fX1, zcs [(84, 2, 0, 0, zvs (UC) 7 (sU_at UC))] [])
theorem YX1_wasLockedNow_ok : zYok (YX1_wasLockedNow) := zYok_of fX1_ok (zall (zcal_mono (zcalV (Y := YX1_wasLockedNow) (y := yX7_at) (cc := cX7_at) (nL := 2) (ret := some .int) (rm := rX7_at) (mU_at UC UC_small) 84 1 7 (T := TX7) rfl wX1_84 ⟨by decide +kernel, by decide +kernel, by decide +kernel⟩ (by decide) ⟨Nat.le_of_ble_eq_true rfl, Nat.le_of_ble_eq_true rfl⟩) (fun _ _ _ _ h => zvs_P h)) znil) znil

theorem mX1_wasLockedNow : zMet (UC) yX1_wasLockedNow cX1_wasLockedNow 2 (some .boolean) rX1_wasLockedNow (sX1_wasLockedNow) := by
  refine zmet (Y := YX1_wasLockedNow) rfl (by decide +kernel) ?_
  intro av F ok ex h
  unfold sX1_wasLockedNow at h
  split at h
  · rename_i i
    refine zgo_ok (YX1_wasLockedNow_ok) zno kX1_wasLockedNow (List.all_eq_true.mp kX1_wasLockedNow_ok) 0 _ _ _ _ _ ?_
    refine And.intro (fun h1 => ?_) (fun h1 => ?_)
    · exact Exists.intro (Or.inl rfl) (h.2 (Int32.not_lt.mpr h1))
    · exact Exists.intro (Or.inr rfl) (h.1 (Int32.not_le.mp h1))
  · exact h.elim

def kX1_turnChamber : List zI := [
  (0, 1, .aload_n 0, [], 0),
  (1, 3, .getfield 21, [], 0),
  (4, 1, .iload_n 1, [], 0),
  (5, 3, .invokevirtual 147, [], 0),
  (8, 3, .ifCond .eq 35, [43], 0),
  (11, 1, .aload_n 0, [], 0),
  (12, 3, .getfield 12, [], 0),
  (15, 3, .getfield 150, [], 0),
  (18, 1, .iload_n 1, [], 0),
  (19, 1, .iconst 1, [], 1),
  (20, 1, .iadd, [], 0),
  (21, 1, .aload_n 0, [], 0),
  (22, 3, .getfield 21, [], 0),
  (25, 1, .iload_n 1, [], 0),
  (26, 3, .invokevirtual 190, [], 0),
  (29, 3, .invokevirtual 169, [], 0),
  (32, 1, .aload_n 0, [], 0),
  (33, 3, .getfield 21, [], 0),
  (36, 1, .iload_n 1, [], 0),
  (37, 3, .invokevirtual 193, [], 0),
  (40, 3, .goto 31, [71], 0),
  (43, 1, .aload_n 0, [], 0),
  (44, 3, .getfield 12, [], 0),
  (47, 3, .getfield 150, [], 0),
  (50, 1, .iload_n 1, [], 0),
  (51, 1, .aload_n 0, [], 0),
  (52, 3, .getfield 21, [], 0),
  (55, 1, .iload_n 1, [], 0),
  (56, 3, .invokevirtual 153, [], 0),
  (59, 1, .ineg, [], 0),
  (60, 3, .invokevirtual 169, [], 0),
  (63, 1, .aload_n 0, [], 0),
  (64, 3, .getfield 21, [], 0),
  (67, 1, .iload_n 1, [], 0),
  (68, 3, .invokevirtual 196, [], 0),
  (71, 1, .return_, [], 0)]
theorem kX1_turnChamber_ok : kX1_turnChamber.all (zck cX1_turnChamber) = true := by decide +kernel

def rX1_turnChamber : Room := { frames := 3, cells := 0, slots := 0, locals := 63 }
abbrev YX1_turnChamber : zM := (RX1, cX1_turnChamber, 2, none, rX1_turnChamber, UC, zlk fX1, zcs [(147, 2, 0, 0, zvs (UC) 5 (sX5_isFull)), (190, 2, 0, 0, zvs (UC) 5 (sX5_leftBeyondBasins)), (169, 3, 0, 0, zvs (UC) 7 (sU_add UC)), (193, 2, 0, 0, zvs (UC) 5 (sX5_empty)), (153, 2, 0, 0, zvs (UC) 5 (sX5_lackingToFill)), (196, 2, 0, 0, zvs (UC) 5 (sX5_fill))] [])
theorem YX1_turnChamber_ok : zYok (YX1_turnChamber) := zYok_of fX1_ok (zall (zcal_mono (zcalV (Y := YX1_turnChamber) (y := yX5_isFull) (cc := cX5_isFull) (nL := 2) (ret := some .boolean) (rm := rX5_isFull) (mX5_isFull) 147 1 5 (T := TX5) rfl wX1_147 ⟨by decide +kernel, by decide +kernel, by decide +kernel⟩ (by decide) ⟨Nat.le_of_ble_eq_true rfl, Nat.le_of_ble_eq_true rfl⟩) (fun _ _ _ _ h => zvs_P h)) (zall (zcal_mono (zcalV (Y := YX1_turnChamber) (y := yX5_leftBeyondBasins) (cc := cX5_leftBeyondBasins) (nL := 3) (ret := some .int) (rm := rX5_leftBeyondBasins) (mX5_leftBeyondBasins) 190 1 5 (T := TX5) rfl wX1_190 ⟨by decide +kernel, by decide +kernel, by decide +kernel⟩ (by decide) ⟨Nat.le_of_ble_eq_true rfl, Nat.le_of_ble_eq_true rfl⟩) (fun _ _ _ _ h => zvs_P h)) (zall (zcal_mono (zcalV (Y := YX1_turnChamber) (y := yX7_add) (cc := cX7_add) (nL := 3) (ret := none) (rm := rX7_add) (mU_add UC UC_small) 169 2 7 (T := TX7) rfl wX1_169 ⟨by decide +kernel, by decide +kernel, by decide +kernel⟩ (by decide) ⟨Nat.le_of_ble_eq_true rfl, Nat.le_of_ble_eq_true rfl⟩) (fun _ _ _ _ h => zvs_P h)) (zall (zcal_mono (zcalV (Y := YX1_turnChamber) (y := yX5_empty) (cc := cX5_empty) (nL := 2) (ret := none) (rm := rX5_empty) (mX5_empty) 193 1 5 (T := TX5) rfl wX1_193 ⟨by decide +kernel, by decide +kernel, by decide +kernel⟩ (by decide) ⟨Nat.le_of_ble_eq_true rfl, Nat.le_of_ble_eq_true rfl⟩) (fun _ _ _ _ h => zvs_P h)) (zall (zcal_mono (zcalV (Y := YX1_turnChamber) (y := yX5_lackingToFill) (cc := cX5_lackingToFill) (nL := 2) (ret := some .int) (rm := rX5_lackingToFill) (mX5_lackingToFill) 153 1 5 (T := TX5) rfl wX1_153 ⟨by decide +kernel, by decide +kernel, by decide +kernel⟩ (by decide) ⟨Nat.le_of_ble_eq_true rfl, Nat.le_of_ble_eq_true rfl⟩) (fun _ _ _ _ h => zvs_P h)) (zall (zcal_mono (zcalV (Y := YX1_turnChamber) (y := yX5_fill) (cc := cX5_fill) (nL := 2) (ret := none) (rm := rX5_fill) (mX5_fill) 196 1 5 (T := TX5) rfl wX1_196 ⟨by decide +kernel, by decide +kernel, by decide +kernel⟩ (by decide) ⟨Nat.le_of_ble_eq_true rfl, Nat.le_of_ble_eq_true rfl⟩) (fun _ _ _ _ h => zvs_P h)) znil)))))) znil

theorem mX1_turnChamber : zMet (UC) yX1_turnChamber cX1_turnChamber 2 (none) rX1_turnChamber (sX1_turnChamber) := by
  refine zmet (Y := YX1_turnChamber) rfl (by decide +kernel) ?_
  intro av F ok ex h
  unfold sX1_turnChamber at h
  split at h
  · rename_i l
    refine zgo_ok (YX1_turnChamber_ok) zno kX1_turnChamber (List.all_eq_true.mp kX1_turnChamber_ok) 0 _ _ _ _ _ ?_
    unfold qTC at h
    refine And.intro (fun h1 => ?_) (fun h1 => ?_)
    · rw [if_pos h1] at h
      exact And.intro (fun h0 => absurd h0 (by decide)) (fun _ => h)
    · rw [if_neg h1] at h
      exact And.intro (fun _ => h) (fun h0 => absurd rfl h0)
  · exact h.elim

def kX1_moveOn : List zI := [
  (0, 1, .aload_n 0, [], 0),
  (1, 3, .getfield 28, [], 0),
  (4, 3, .getfield 68, [], 0),
  (7, 1, .iload_n 1, [], 0),
  (8, 3, .invokevirtual 84, [], 0),
  (11, 1, .aload_n 0, [], 0),
  (12, 3, .getfield 28, [], 0),
  (15, 1, .iload_n 1, [], 0),
  (16, 3, .invokevirtual 114, [], 0),
  (19, 3, .ifCond .eq 7, [26], 0),
  (22, 1, .iconst (-1), [], (-1)),
  (23, 3, .goto 4, [27], 0),
  (26, 1, .iconst 1, [], 1),
  (27, 1, .iadd, [], 0),
  (28, 1, .istore_n 2, [], 0),
  (29, 1, .iload_n 2, [], 0),
  (30, 3, .ifCond .lt 46, [76], 0),
  (33, 1, .iload_n 2, [], 0),
  (34, 1, .aload_n 0, [], 0),
  (35, 3, .getfield 21, [], 0),
  (38, 3, .getfield 72, [], 0),
  (41, 3, .if_icmp .ge 35, [76], 0),
  (44, 1, .aload_n 0, [], 0),
  (45, 3, .getfield 28, [], 0),
  (48, 3, .getfield 68, [], 0),
  (51, 1, .iload_n 1, [], 0),
  (52, 1, .iload_n 2, [], 0),
  (53, 3, .invokevirtual 75, [], 0),
  (56, 1, .aload_n 0, [], 0),
  (57, 3, .getfield 28, [], 0),
  (60, 3, .getfield 81, [], 0),
  (63, 1, .iload_n 1, [], 0),
  (64, 1, .aload_n 0, [], 0),
  (65, 3, .getfield 49, [], 0),
  (68, 1, .iconst 1, [], 1),
  (69, 1, .iadd, [], 0),
  (70, 3, .invokevirtual 75, [], 0),
  (73, 3, .goto 15, [88], 0),
  (76, 1, .aload_n 0, [], 0),
  (77, 3, .getfield 28, [], 0),
  (80, 1, .iload_n 1, [], 0),
  (81, 1, .aload_n 0, [], 0),
  (82, 3, .getfield 49, [], 0),
  (85, 3, .invokevirtual 214, [], 0),
  (88, 1, .return_, [], 0)]
theorem kX1_moveOn_ok : kX1_moveOn.all (zck cX1_moveOn) = true := by decide +kernel

def rX1_moveOn : Room := { frames := 2, cells := 0, slots := 0, locals := 44 }
abbrev YX1_moveOn : zM := (RX1, cX1_moveOn, 3, none, rX1_moveOn, UC, zlk fX1, zcs [(84, 2, 0, 0, zvs (UC) 7 (sU_at UC)), (114, 2, 0, 0, zvs (UC) 3 (sX3_goesUp)), (75, 3, 0, 0, zvs (UC) 7 (sU_put UC)), (214, 3, 0, 0, zvs (UC) 3 (sX3_leave))] [])
theorem YX1_moveOn_ok : zYok (YX1_moveOn) := zYok_of fX1_ok (zall (zcal_mono (zcalV (Y := YX1_moveOn) (y := yX7_at) (cc := cX7_at) (nL := 2) (ret := some .int) (rm := rX7_at) (mU_at UC UC_small) 84 1 7 (T := TX7) rfl wX1_84 ⟨by decide +kernel, by decide +kernel, by decide +kernel⟩ (by decide) ⟨Nat.le_of_ble_eq_true rfl, Nat.le_of_ble_eq_true rfl⟩) (fun _ _ _ _ h => zvs_P h)) (zall (zcal_mono (zcalV (Y := YX1_moveOn) (y := yX3_goesUp) (cc := cX3_goesUp) (nL := 2) (ret := some .boolean) (rm := rX3_goesUp) (mX3_goesUp) 114 1 3 (T := TX3) rfl wX1_114 ⟨by decide +kernel, by decide +kernel, by decide +kernel⟩ (by decide) ⟨Nat.le_of_ble_eq_true rfl, Nat.le_of_ble_eq_true rfl⟩) (fun _ _ _ _ h => zvs_P h)) (zall (zcal_mono (zcalV (Y := YX1_moveOn) (y := yX7_put) (cc := cX7_put) (nL := 3) (ret := none) (rm := rX7_put) (mU_put UC UC_small) 75 2 7 (T := TX7) rfl wX1_75 ⟨by decide +kernel, by decide +kernel, by decide +kernel⟩ (by decide) ⟨Nat.le_of_ble_eq_true rfl, Nat.le_of_ble_eq_true rfl⟩) (fun _ _ _ _ h => zvs_P h)) (zall (zcal_mono (zcalV (Y := YX1_moveOn) (y := yX3_leave) (cc := cX3_leave) (nL := 3) (ret := none) (rm := rX3_leave) (mX3_leave) 214 2 3 (T := TX3) rfl wX1_214 ⟨by decide +kernel, by decide +kernel, by decide +kernel⟩ (by decide) ⟨Nat.le_of_ble_eq_true rfl, Nat.le_of_ble_eq_true rfl⟩) (fun _ _ _ _ h => zvs_P h)) znil)))) znil

theorem mX1_moveOn : zMet (UC) yX1_moveOn cX1_moveOn 3 (none) rX1_moveOn (sX1_moveOn) := by
  refine zmet (Y := YX1_moveOn) rfl (by decide +kernel) ?_
  intro av F ok ex h
  unfold sX1_moveOn at h
  split at h
  · rename_i s
    refine zgo_ok (YX1_moveOn_ok) zno kX1_moveOn (List.all_eq_true.mp kX1_moveOn_ok) 0 _ _ _ _ _ ?_
    unfold qMO qNL at h
    have e : ∀ v : Int32, zwr 16 F 35 s v 0 7 = F 0 7 := fun v => by rw [zwr_ne _ _ _ _ (by decide)]
    refine And.intro (fun h1 => ?_) (fun h1 => ?_)
    · refine And.intro (fun h0 => absurd h0 (by decide)) (fun _ => ?_)
      rw [if_pos h1] at h
      refine And.intro (fun h2 => ?_) (fun h2 => And.intro (fun h3 => ?_) (fun h3 => ?_))
      · rw [if_neg (fun q => Int32.not_lt.mpr q.1 h2)] at h
        exact h
      · rw [if_neg (fun q => Int32.not_lt.mpr h3 q.2)] at h
        exact h
      · rw [if_pos ⟨Int32.not_lt.mp h2, Int32.not_le.mp h3⟩] at h
        refine zleaf ok h rfl ?_
        rw [← e]
    · refine And.intro (fun _ => ?_) (fun h0 => absurd rfl h0)
      rw [if_neg h1] at h
      refine And.intro (fun h2 => ?_) (fun h2 => And.intro (fun h3 => ?_) (fun h3 => ?_))
      · rw [if_neg (fun q => Int32.not_lt.mpr q.1 h2)] at h
        exact h
      · rw [if_neg (fun q => Int32.not_lt.mpr h3 q.2)] at h
        exact h
      · rw [if_pos ⟨Int32.not_lt.mp h2, Int32.not_le.mp h3⟩] at h
        refine zleaf ok h rfl ?_
        rw [← e]
  · exact h.elim

def kX1_lockRow : List zI := [
  (0, 1, .aload_n 0, [], 0),
  (1, 3, .getfield 28, [], 0),
  (4, 1, .iload_n 1, [], 0),
  (5, 1, .iload_n 2, [], 0),
  (6, 3, .invokevirtual 199, [], 0),
  (9, 1, .iload_n 1, [], 0),
  (10, 2, .istore 4, [], 0),
  (12, 1, .iconst 0, [], 0),
  (13, 2, .istore 5, [], 0),
  (15, 2, .iload 5, [], 0),
  (17, 1, .iload_n 2, [], 0),
  (18, 3, .if_icmp .ge 33, [51], 0),
  (21, 1, .aload_n 0, [], 0),
  (22, 3, .getfield 28, [], 0),
  (25, 3, .getfield 202, [], 0),
  (28, 2, .iload 4, [], 0),
  (30, 3, .invokevirtual 84, [], 0),
  (33, 2, .istore 6, [], 0),
  (35, 1, .aload_n 0, [], 0),
  (36, 2, .iload 4, [], 0),
  (38, 3, .invokevirtual 205, [], 0),
  (41, 2, .iload 6, [], 0),
  (43, 2, .istore 4, [], 0),
  (45, 3, .iinc 5 1, [], 1),
  (48, 3, .goto (-33), [15], 0),
  (51, 1, .aload_n 0, [], 0),
  (52, 3, .getfield 21, [], 0),
  (55, 3, .getfield 208, [], 0),
  (58, 1, .iload_n 3, [], 0),
  (59, 1, .iload_n 2, [], 0),
  (60, 3, .invokevirtual 169, [], 0),
  (63, 1, .aload_n 0, [], 0),
  (64, 3, .getfield 21, [], 0),
  (67, 3, .getfield 211, [], 0),
  (70, 1, .iload_n 3, [], 0),
  (71, 1, .iconst 1, [], 1),
  (72, 3, .invokevirtual 169, [], 0),
  (75, 1, .return_, [], 0)]
theorem kX1_lockRow_ok : kX1_lockRow.all (zck cX1_lockRow) = true := by decide +kernel

def rX1_lockRow : Room := { frames := 3, cells := 0, slots := 0, locals := 69 }
abbrev YX1_lockRow : zM := (RX1, cX1_lockRow, 7, none, rX1_lockRow, UC, zlk fX1, zcs [(199, 3, 0, 0, zvs (UC) 3 (sX3_cutBehind)), (84, 2, 0, 0, zvs (UC) 7 (sU_at UC)), (205, 2, 0, 0, zvs (UC) 1 (sX1_moveOn)), (169, 3, 0, 0, zvs (UC) 7 (sU_add UC))] [])
theorem YX1_lockRow_ok : zYok (YX1_lockRow) := zYok_of fX1_ok (zall (zcal_mono (zcalV (Y := YX1_lockRow) (y := yX3_cutBehind) (cc := cX3_cutBehind) (nL := 4) (ret := none) (rm := rX3_cutBehind) (mX3_cutBehind) 199 2 3 (T := TX3) rfl wX1_199 ⟨by decide +kernel, by decide +kernel, by decide +kernel⟩ (by decide) ⟨Nat.le_of_ble_eq_true rfl, Nat.le_of_ble_eq_true rfl⟩) (fun _ _ _ _ h => zvs_P h)) (zall (zcal_mono (zcalV (Y := YX1_lockRow) (y := yX7_at) (cc := cX7_at) (nL := 2) (ret := some .int) (rm := rX7_at) (mU_at UC UC_small) 84 1 7 (T := TX7) rfl wX1_84 ⟨by decide +kernel, by decide +kernel, by decide +kernel⟩ (by decide) ⟨Nat.le_of_ble_eq_true rfl, Nat.le_of_ble_eq_true rfl⟩) (fun _ _ _ _ h => zvs_P h)) (zall (zcal_mono (zcalV (Y := YX1_lockRow) (y := yX1_moveOn) (cc := cX1_moveOn) (nL := 3) (ret := none) (rm := rX1_moveOn) (mX1_moveOn) 205 1 1 (T := TX1) rfl wX1_205 ⟨by decide +kernel, by decide +kernel, by decide +kernel⟩ (by decide) ⟨Nat.le_of_ble_eq_true rfl, Nat.le_of_ble_eq_true rfl⟩) (fun _ _ _ _ h => zvs_P h)) (zall (zcal_mono (zcalV (Y := YX1_lockRow) (y := yX7_add) (cc := cX7_add) (nL := 3) (ret := none) (rm := rX7_add) (mU_add UC UC_small) 169 2 7 (T := TX7) rfl wX1_169 ⟨by decide +kernel, by decide +kernel, by decide +kernel⟩ (by decide) ⟨Nat.le_of_ble_eq_true rfl, Nat.le_of_ble_eq_true rfl⟩) (fun _ _ _ _ h => zvs_P h)) znil)))) znil

theorem lX1_lockRow (ok : zO) (ex : zX) (hd r l : Int32) : ∀ (d k : Nat) (G : zF) (s : Int32) (w : Option Value), k + d = r.toNatClampNeg → ok none (zwr 4 (zwr 4 (qMv d G s) 22 l (zrd 4 (qMv d G s 22) l + r)) 24 l (zrd 4 (zwr 4 (qMv d G s) 22 l (zrd 4 (qMv d G s 22) l + r) 24) l + 1)) → zWP YX1_lockRow ok ex 15 [some (.ref 0), some (.int hd), some (.int r), some (.int l), some (.int s), some (.int (nI k)), w] [] 0 0 G := by
  intro d
  induction d with
  | zero =>
    intro k G s w hk h
    have hk : k = r.toNatClampNeg := hk
    subst hk
    refine zat_ok YX1_lockRow_ok zno kX1_lockRow (List.all_eq_true.mp kX1_lockRow_ok) 15 _ _ _ _ _ ?_
    exact And.intro (fun _ => h) (fun h1 => absurd (zcnt_ge _) h1)
  | succ d ih =>
    intro k G s w hk h
    refine zat_ok YX1_lockRow_ok (inv := zi1 15 (fun ls st kc ks G => zWP YX1_lockRow ok ex 15 ls st kc ks G)) (zone fun _ _ _ _ _ h => h) kX1_lockRow (List.all_eq_true.mp kX1_lockRow_ok) 15 _ _ _ _ _ ?_
    refine And.intro (fun h1 => absurd h1 (zcnt_lt (c := r) (k := k) (by omega))) (fun h1 => ?_)
    have := ih (k + 1) (qMO G s) (qNx G s) (some (.int (qNx G s))) (by omega) h
    rw [← nI_1] at this
    exact this

theorem mX1_lockRow : zMet (UC) yX1_lockRow cX1_lockRow 7 (none) rX1_lockRow (sX1_lockRow) := by
  refine zmet (Y := YX1_lockRow) rfl (by decide +kernel) ?_
  intro av F ok ex h
  unfold sX1_lockRow at h
  split at h
  · rename_i hd r l
    refine zgo_ok (YX1_lockRow_ok) (inv := zi1 15 (fun ls st kc ks G => zWP YX1_lockRow ok ex 15 ls st kc ks G)) (zone fun _ _ _ _ _ h => h) kX1_lockRow (List.all_eq_true.mp kX1_lockRow_ok) 0 _ _ _ _ _ ?_
    exact lX1_lockRow ok ex hd r l _ 0 (qCt F hd r) hd none (Nat.zero_add _) h
  · exact h.elim

end ZCa
