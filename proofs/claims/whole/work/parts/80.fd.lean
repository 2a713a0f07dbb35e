/-! the law's wrappers -/
section ZFd
set_option maxRecDepth 20000
def kL_addReach : List zI := [
  (0, 2, .aload 6, [], 0),
  (2, 1, .iconst 0, [], 0),
  (3, 1, .aload_n 0, [], 0),
  (4, 1, .iload_n 1, [], 0),
  (5, 1, .iload_n 2, [], 0),
  (6, 1, .iload_n 3, [], 0),
  (7, 2, .iload 4, [], 0),
  (9, 2, .iload 5, [], 0),
  (11, 3, .invokevirtual 7, [], 0),
  (14, 1, .i2l, [], 0),
  (15, 1, .lastore, [], 0),
  (16, 3, .goto 11, [27], 0),
  (19, 2, .astore 7, [], 0),
  (21, 1, .iconst 1, [], 1),
  (22, 1, .ireturn, [], 0),
  (23, 2, .astore 7, [], 0),
  (25, 1, .iconst 2, [], 2),
  (26, 1, .ireturn, [], 0),
  (27, 1, .iconst 0, [], 0),
  (28, 1, .ireturn, [], 0)]
theorem kL_addReach_ok : kL_addReach.all (zck cL_addReach) = true := by decide +kernel

theorem wL_7 : ∀ w ∈ [Cond.methodLink RL 7 yX8_addReach, Cond.initialized yX8_addReach.cls, Cond.code yX8_addReach cX8_addReach 7 (some .int), Cond.instanceMethod yX8_addReach, Cond.selects yX8_addReach.cls yX8_addReach yX8_addReach], w ∈ zts := (zall (zmem 428 (by decide +kernel) (by decide +kernel)) (zall (zmem 59 (by decide +kernel) (by decide +kernel)) (zall (zmem 431 (by decide +kernel) (by decide +kernel)) (zall (zmem 429 (by decide +kernel) (by decide +kernel)) (zall (zmem 430 (by decide +kernel) (by decide +kernel)) znil)))))
def rL_addReach : Room := { frames := 8, cells := 3, slots := 18, locals := 133 }
def hL_addReach : List zHd := [((0, 16, 19, 13), xA), ((0, 16, 23, 15), xS)]
theorem wL_addReach : zhw RL hL_addReach := zall zhq_xA (zall zhq_xS (znil))
abbrev YL_addReach : zM := (RL, cL_addReach, 8, some .int, rL_addReach, UL, fun _ => none, zcs [(7, 6, 3, 18, zvs UL 8 (sLC sX8_addReach))] [])
def sL_addReach : List Value → zF → zO → Prop := fun as F ok => match as with
  | [.ref 495, .int p0, .int p1, .int p2, .int p3, .int p4, .ref 519] => sLl sX8_addReach [xA, xS] [.ref 495, .int p0, .int p1, .int p2, .int p3, .int p4] F ok
  | _ => False
theorem uL_addReach : zMet UL yX8_addReach cX8_addReach 7 (some .int) rX8_addReach (sLC sX8_addReach) := zliftC mX8_addReach
theorem vL_addReach (ok : zO) : zCalX YL_addReach (zKl YL_addReach hL_addReach) (zQl YL_addReach ok) (zAl YL_addReach) (zxk YL_addReach hL_addReach ok) true 7 6 3 18 (zvsP UL 8 (sLC sX8_addReach)) := zcalL (Y := YL_addReach) (y := yX8_addReach) (cc := cX8_addReach) (nL := 7) (ret := some .int) (rm := rX8_addReach) uL_addReach 7 5 8 (T := TX8) rfl wL_7 ⟨by decide +kernel, by decide +kernel, by decide +kernel⟩ (by decide) ⟨Nat.le_of_ble_eq_true rfl, Nat.le_of_ble_eq_true rfl⟩
theorem YL_addReach_ok (ok : zO) : zXok YL_addReach (zKl YL_addReach hL_addReach) (zQl YL_addReach ok) (zAl YL_addReach) false (fun _ => 0) 0 (fun x F => ok (some (.int x)) F) (zxk YL_addReach hL_addReach ok) := zXok_L (zCalX_one (vl := [(7, 6, 3, 18, zvs UL 8 (sLC sX8_addReach))]) rfl (zall (zcalX_mono (vL_addReach ok) (fun _ _ _ _ g => zvs_P g)) znil))
theorem mL_addReach : zMetL UL yL_addReach cL_addReach 8 rL_addReach hL_addReach sL_addReach := by
  refine zmetL (Y := YL_addReach) rfl (by decide +kernel) ?_
  intro av F ok h
  unfold sL_addReach at h
  split at h
  · obtain ⟨ok', ex', F0, h0, h1, h2, h3⟩ := h
    refine zgoX_ok (YL_addReach_ok ok) znoX kL_addReach (List.all_eq_true.mp kL_addReach_ok) 0 _ _ _ _ _ ?_
    refine ⟨⟨by decide, by decide⟩, ok', ex', F0, h0, h1, fun q F' g => ?_, fun E F' g => ⟨⟨by decide +kernel, wL_addReach⟩, (h3 E F' g).1, (h3 E F' g).2⟩⟩
    obtain ⟨v, rfl, g2⟩ := h2 q F' g
    exact ⟨vp01, v, rfl, g2⟩
  · exact h.elim
def kL_set : List zI := [
  (0, 1, .aload_n 3, [], 0),
  (1, 1, .iconst 0, [], 0),
  (2, 1, .aload_n 0, [], 0),
  (3, 1, .iload_n 1, [], 0),
  (4, 1, .iload_n 2, [], 0),
  (5, 3, .invokevirtual 17, [], 0),
  (8, 1, .i2l, [], 0),
  (9, 1, .lastore, [], 0),
  (10, 3, .goto 11, [21], 0),
  (13, 2, .astore 4, [], 0),
  (15, 1, .iconst 1, [], 1),
  (16, 1, .ireturn, [], 0),
  (17, 2, .astore 4, [], 0),
  (19, 1, .iconst 2, [], 2),
  (20, 1, .ireturn, [], 0),
  (21, 1, .iconst 0, [], 0),
  (22, 1, .ireturn, [], 0)]
theorem kL_set_ok : kL_set.all (zck cL_set) = true := by decide +kernel

theorem wL_17 : ∀ w ∈ [Cond.methodLink RL 17 yX8_set, Cond.initialized yX8_set.cls, Cond.code yX8_set cX8_set 3 (some .int), Cond.instanceMethod yX8_set, Cond.selects yX8_set.cls yX8_set yX8_set], w ∈ zts := (zall (zmem 585 (by decide +kernel) (by decide +kernel)) (zall (zmem 59 (by decide +kernel) (by decide +kernel)) (zall (zmem 588 (by decide +kernel) (by decide +kernel)) (zall (zmem 586 (by decide +kernel) (by decide +kernel)) (zall (zmem 587 (by decide +kernel) (by decide +kernel)) znil)))))
def rL_set : Room := { frames := 8, cells := 2, slots := 12, locals := 129 }
def hL_set : List zHd := [((0, 10, 13, 21), xI), ((0, 10, 17, 13), xA)]
theorem wL_set : zhw RL hL_set := zall zhq_xI (zall zhq_xA (znil))
abbrev YL_set : zM := (RL, cL_set, 5, some .int, rL_set, UL, fun _ => none, zcs [(17, 3, 2, 12, zvs UL 8 (sLC sX8_set))] [])
def sL_set : List Value → zF → zO → Prop := fun as F ok => match as with
  | [.ref 495, .int p0, .int p1, .ref 519] => sLl sX8_set [xI, xA] [.ref 495, .int p0, .int p1] F ok
  | _ => False
theorem uL_set : zMet UL yX8_set cX8_set 3 (some .int) rX8_set (sLC sX8_set) := zliftC mX8_set
theorem vL_set (ok : zO) : zCalX YL_set (zKl YL_set hL_set) (zQl YL_set ok) (zAl YL_set) (zxk YL_set hL_set ok) true 17 3 2 12 (zvsP UL 8 (sLC sX8_set)) := zcalL (Y := YL_set) (y := yX8_set) (cc := cX8_set) (nL := 3) (ret := some .int) (rm := rX8_set) uL_set 17 2 8 (T := TX8) rfl wL_17 ⟨by decide +kernel, by decide +kernel, by decide +kernel⟩ (by decide) ⟨Nat.le_of_ble_eq_true rfl, Nat.le_of_ble_eq_true rfl⟩
theorem YL_set_ok (ok : zO) : zXok YL_set (zKl YL_set hL_set) (zQl YL_set ok) (zAl YL_set) false (fun _ => 0) 0 (fun x F => ok (some (.int x)) F) (zxk YL_set hL_set ok) := zXok_L (zCalX_one (vl := [(17, 3, 2, 12, zvs UL 8 (sLC sX8_set))]) rfl (zall (zcalX_mono (vL_set ok) (fun _ _ _ _ g => zvs_P g)) znil))
theorem mL_set : zMetL UL yL_set cL_set 5 rL_set hL_set sL_set := by
  refine zmetL (Y := YL_set) rfl (by decide +kernel) ?_
  intro av F ok h
  unfold sL_set at h
  split at h
  · obtain ⟨ok', ex', F0, h0, h1, h2, h3⟩ := h
    refine zgoX_ok (YL_set_ok ok) znoX kL_set (List.all_eq_true.mp kL_set_ok) 0 _ _ _ _ _ ?_
    refine ⟨⟨by decide, by decide⟩, ok', ex', F0, h0, h1, fun q F' g => ?_, fun E F' g => ⟨⟨by decide +kernel, wL_set⟩, (h3 E F' g).1, (h3 E F' g).2⟩⟩
    obtain ⟨v, rfl, g2⟩ := h2 q F' g
    exact ⟨vp01, v, rfl, g2⟩
  · exact h.elim
def kL_reach : List zI := [
  (0, 1, .aload_n 3, [], 0),
  (1, 1, .iconst 0, [], 0),
  (2, 1, .aload_n 0, [], 0),
  (3, 1, .iload_n 1, [], 0),
  (4, 1, .iload_n 2, [], 0),
  (5, 3, .invokevirtual 23, [], 0),
  (8, 1, .i2l, [], 0),
  (9, 1, .lastore, [], 0),
  (10, 3, .goto 11, [21], 0),
  (13, 2, .astore 4, [], 0),
  (15, 1, .iconst 1, [], 1),
  (16, 1, .ireturn, [], 0),
  (17, 2, .astore 4, [], 0),
  (19, 1, .iconst 2, [], 2),
  (20, 1, .ireturn, [], 0),
  (21, 1, .iconst 0, [], 0),
  (22, 1, .ireturn, [], 0)]
theorem kL_reach_ok : kL_reach.all (zck cL_reach) = true := by decide +kernel

theorem wL_23 : ∀ w ∈ [Cond.methodLink RL 23 yX8_reach, Cond.initialized yX8_reach.cls, Cond.code yX8_reach cX8_reach 3 (some .int), Cond.instanceMethod yX8_reach, Cond.selects yX8_reach.cls yX8_reach yX8_reach], w ∈ zts := (zall (zmem 615 (by decide +kernel) (by decide +kernel)) (zall (zmem 59 (by decide +kernel) (by decide +kernel)) (zall (zmem 618 (by decide +kernel) (by decide +kernel)) (zall (zmem 616 (by decide +kernel) (by decide +kernel)) (zall (zmem 617 (by decide +kernel) (by decide +kernel)) znil)))))
def rL_reach : Room := { frames := 8, cells := 2, slots := 12, locals := 125 }
def hL_reach : List zHd := [((0, 10, 13, 21), xI), ((0, 10, 17, 13), xA)]
theorem wL_reach : zhw RL hL_reach := zall zhq_xI (zall zhq_xA (znil))
abbrev YL_reach : zM := (RL, cL_reach, 5, some .int, rL_reach, UL, fun _ => none, zcs [(23, 3, 2, 12, zvs UL 8 (sLC sX8_reach))] [])
def sL_reach : List Value → zF → zO → Prop := fun as F ok => match as with
  | [.ref 495, .int p0, .int p1, .ref 519] => sLl sX8_reach [xI, xA] [.ref 495, .int p0, .int p1] F ok
  | _ => False
theorem uL_reach : zMet UL yX8_reach cX8_reach 3 (some .int) rX8_reach (sLC sX8_reach) := zliftC mX8_reach
theorem vL_reach (ok : zO) : zCalX YL_reach (zKl YL_reach hL_reach) (zQl YL_reach ok) (zAl YL_reach) (zxk YL_reach hL_reach ok) true 23 3 2 12 (zvsP UL 8 (sLC sX8_reach)) := zcalL (Y := YL_reach) (y := yX8_reach) (cc := cX8_reach) (nL := 3) (ret := some .int) (rm := rX8_reach) uL_reach 23 2 8 (T := TX8) rfl wL_23 ⟨by decide +kernel, by decide +kernel, by decide +kernel⟩ (by decide) ⟨Nat.le_of_ble_eq_true rfl, Nat.le_of_ble_eq_true rfl⟩
theorem YL_reach_ok (ok : zO) : zXok YL_reach (zKl YL_reach hL_reach) (zQl YL_reach ok) (zAl YL_reach) false (fun _ => 0) 0 (fun x F => ok (some (.int x)) F) (zxk YL_reach hL_reach ok) := zXok_L (zCalX_one (vl := [(23, 3, 2, 12, zvs UL 8 (sLC sX8_reach))]) rfl (zall (zcalX_mono (vL_reach ok) (fun _ _ _ _ g => zvs_P g)) znil))
theorem mL_reach : zMetL UL yL_reach cL_reach 5 rL_reach hL_reach sL_reach := by
  refine zmetL (Y := YL_reach) rfl (by decide +kernel) ?_
  intro av F ok h
  unfold sL_reach at h
  split at h
  · obtain ⟨ok', ex', F0, h0, h1, h2, h3⟩ := h
    refine zgoX_ok (YL_reach_ok ok) znoX kL_reach (List.all_eq_true.mp kL_reach_ok) 0 _ _ _ _ _ ?_
    refine ⟨⟨by decide, by decide⟩, ok', ex', F0, h0, h1, fun q F' g => ?_, fun E F' g => ⟨⟨by decide +kernel, wL_reach⟩, (h3 E F' g).1, (h3 E F' g).2⟩⟩
    obtain ⟨v, rfl, g2⟩ := h2 q F' g
    exact ⟨vp01, v, rfl, g2⟩
  · exact h.elim
def kL_lock : List zI := [
  (0, 1, .aload_n 3, [], 0),
  (1, 1, .iconst 0, [], 0),
  (2, 1, .aload_n 0, [], 0),
  (3, 1, .iload_n 1, [], 0),
  (4, 1, .iload_n 2, [], 0),
  (5, 3, .invokevirtual 26, [], 0),
  (8, 1, .i2l, [], 0),
  (9, 1, .lastore, [], 0),
  (10, 3, .goto 11, [21], 0),
  (13, 2, .astore 4, [], 0),
  (15, 1, .iconst 1, [], 1),
  (16, 1, .ireturn, [], 0),
  (17, 2, .astore 4, [], 0),
  (19, 1, .iconst 2, [], 2),
  (20, 1, .ireturn, [], 0),
  (21, 1, .iconst 0, [], 0),
  (22, 1, .ireturn, [], 0)]
theorem kL_lock_ok : kL_lock.all (zck cL_lock) = true := by decide +kernel

theorem wL_26 : ∀ w ∈ [Cond.methodLink RL 26 yX8_lock, Cond.initialized yX8_lock.cls, Cond.code yX8_lock cX8_lock 3 (some .int), Cond.instanceMethod yX8_lock, Cond.selects yX8_lock.cls yX8_lock yX8_lock], w ∈ zts := (zall (zmem 645 (by decide +kernel) (by decide +kernel)) (zall (zmem 59 (by decide +kernel) (by decide +kernel)) (zall (zmem 648 (by decide +kernel) (by decide +kernel)) (zall (zmem 646 (by decide +kernel) (by decide +kernel)) (zall (zmem 647 (by decide +kernel) (by decide +kernel)) znil)))))
def rL_lock : Room := { frames := 8, cells := 2, slots := 12, locals := 125 }
def hL_lock : List zHd := [((0, 10, 13, 21), xI), ((0, 10, 17, 13), xA)]
theorem wL_lock : zhw RL hL_lock := zall zhq_xI (zall zhq_xA (znil))
abbrev YL_lock : zM := (RL, cL_lock, 5, some .int, rL_lock, UL, fun _ => none, zcs [(26, 3, 2, 12, zvs UL 8 (sLC sX8_lock))] [])
def sL_lock : List Value → zF → zO → Prop := fun as F ok => match as with
  | [.ref 495, .int p0, .int p1, .ref 519] => sLl sX8_lock [xI, xA] [.ref 495, .int p0, .int p1] F ok
  | _ => False
theorem uL_lock : zMet UL yX8_lock cX8_lock 3 (some .int) rX8_lock (sLC sX8_lock) := zliftC mX8_lock
theorem vL_lock (ok : zO) : zCalX YL_lock (zKl YL_lock hL_lock) (zQl YL_lock ok) (zAl YL_lock) (zxk YL_lock hL_lock ok) true 26 3 2 12 (zvsP UL 8 (sLC sX8_lock)) := zcalL (Y := YL_lock) (y := yX8_lock) (cc := cX8_lock) (nL := 3) (ret := some .int) (rm := rX8_lock) uL_lock 26 2 8 (T := TX8) rfl wL_26 ⟨by decide +kernel, by decide +kernel, by decide +kernel⟩ (by decide) ⟨Nat.le_of_ble_eq_true rfl, Nat.le_of_ble_eq_true rfl⟩
theorem YL_lock_ok (ok : zO) : zXok YL_lock (zKl YL_lock hL_lock) (zQl YL_lock ok) (zAl YL_lock) false (fun _ => 0) 0 (fun x F => ok (some (.int x)) F) (zxk YL_lock hL_lock ok) := zXok_L (zCalX_one (vl := [(26, 3, 2, 12, zvs UL 8 (sLC sX8_lock))]) rfl (zall (zcalX_mono (vL_lock ok) (fun _ _ _ _ g => zvs_P g)) znil))
theorem mL_lock : zMetL UL yL_lock cL_lock 5 rL_lock hL_lock sL_lock := by
  refine zmetL (Y := YL_lock) rfl (by decide +kernel) ?_
  intro av F ok h
  unfold sL_lock at h
  split at h
  · obtain ⟨ok', ex', F0, h0, h1, h2, h3⟩ := h
    refine zgoX_ok (YL_lock_ok ok) znoX kL_lock (List.all_eq_true.mp kL_lock_ok) 0 _ _ _ _ _ ?_
    refine ⟨⟨by decide, by decide⟩, ok', ex', F0, h0, h1, fun q F' g => ?_, fun E F' g => ⟨⟨by decide +kernel, wL_lock⟩, (h3 E F' g).1, (h3 E F' g).2⟩⟩
    obtain ⟨v, rfl, g2⟩ := h2 q F' g
    exact ⟨vp01, v, rfl, g2⟩
  · exact h.elim
def kL_addShip : List zI := [
  (0, 2, .aload 5, [], 0),
  (2, 1, .iconst 0, [], 0),
  (3, 1, .aload_n 0, [], 0),
  (4, 1, .iload_n 1, [], 0),
  (5, 1, .iload_n 2, [], 0),
  (6, 1, .iload_n 3, [], 0),
  (7, 2, .iload 4, [], 0),
  (9, 3, .invokevirtual 29, [], 0),
  (12, 1, .i2l, [], 0),
  (13, 1, .lastore, [], 0),
  (14, 3, .goto 11, [25], 0),
  (17, 2, .astore 6, [], 0),
  (19, 1, .iconst 1, [], 1),
  (20, 1, .ireturn, [], 0),
  (21, 2, .astore 6, [], 0),
  (23, 1, .iconst 2, [], 2),
  (24, 1, .ireturn, [], 0),
  (25, 1, .iconst 0, [], 0),
  (26, 1, .ireturn, [], 0)]
theorem kL_addShip_ok : kL_addShip.all (zck cL_addShip) = true := by decide +kernel

theorem wL_29 : ∀ w ∈ [Cond.methodLink RL 29 yX8_addShip, Cond.initialized yX8_addShip.cls, Cond.code yX8_addShip cX8_addShip 5 (some .int), Cond.instanceMethod yX8_addShip, Cond.selects yX8_addShip.cls yX8_addShip yX8_addShip], w ∈ zts := (zall (zmem 670 (by decide +kernel) (by decide +kernel)) (zall (zmem 59 (by decide +kernel) (by decide +kernel)) (zall (zmem 673 (by decide +kernel) (by decide +kernel)) (zall (zmem 671 (by decide +kernel) (by decide +kernel)) (zall (zmem 672 (by decide +kernel) (by decide +kernel)) znil)))))
def rL_addShip : Room := { frames := 8, cells := 2, slots := 12, locals := 131 }
def hL_addShip : List zHd := [((0, 14, 17, 13), xA), ((0, 14, 21, 33), xU)]
theorem wL_addShip : zhw RL hL_addShip := zall zhq_xA (zall zhq_xU (znil))
abbrev YL_addShip : zM := (RL, cL_addShip, 7, some .int, rL_addShip, UL, fun _ => none, zcs [(29, 5, 2, 12, zvs UL 8 (sLC sX8_addShip))] [])
def sL_addShip : List Value → zF → zO → Prop := fun as F ok => match as with
  | [.ref 495, .int p0, .int p1, .int p2, .int p3, .ref 519] => sLl sX8_addShip [xA, xU] [.ref 495, .int p0, .int p1, .int p2, .int p3] F ok
  | _ => False
theorem uL_addShip : zMet UL yX8_addShip cX8_addShip 5 (some .int) rX8_addShip (sLC sX8_addShip) := zliftC mX8_addShip
theorem vL_addShip (ok : zO) : zCalX YL_addShip (zKl YL_addShip hL_addShip) (zQl YL_addShip ok) (zAl YL_addShip) (zxk YL_addShip hL_addShip ok) true 29 5 2 12 (zvsP UL 8 (sLC sX8_addShip)) := zcalL (Y := YL_addShip) (y := yX8_addShip) (cc := cX8_addShip) (nL := 5) (ret := some .int) (rm := rX8_addShip) uL_addShip 29 4 8 (T := TX8) rfl wL_29 ⟨by decide +kernel, by decide +kernel, by decide +kernel⟩ (by decide) ⟨Nat.le_of_ble_eq_true rfl, Nat.le_of_ble_eq_true rfl⟩
theorem YL_addShip_ok (ok : zO) : zXok YL_addShip (zKl YL_addShip hL_addShip) (zQl YL_addShip ok) (zAl YL_addShip) false (fun _ => 0) 0 (fun x F => ok (some (.int x)) F) (zxk YL_addShip hL_addShip ok) := zXok_L (zCalX_one (vl := [(29, 5, 2, 12, zvs UL 8 (sLC sX8_addShip))]) rfl (zall (zcalX_mono (vL_addShip ok) (fun _ _ _ _ g => zvs_P g)) znil))
theorem mL_addShip : zMetL UL yL_addShip cL_addShip 7 rL_addShip hL_addShip sL_addShip := by
  refine zmetL (Y := YL_addShip) rfl (by decide +kernel) ?_
  intro av F ok h
  unfold sL_addShip at h
  split at h
  · obtain ⟨ok', ex', F0, h0, h1, h2, h3⟩ := h
    refine zgoX_ok (YL_addShip_ok ok) znoX kL_addShip (List.all_eq_true.mp kL_addShip_ok) 0 _ _ _ _ _ ?_
    refine ⟨⟨by decide, by decide⟩, ok', ex', F0, h0, h1, fun q F' g => ?_, fun E F' g => ⟨⟨by decide +kernel, wL_addShip⟩, (h3 E F' g).1, (h3 E F' g).2⟩⟩
    obtain ⟨v, rfl, g2⟩ := h2 q F' g
    exact ⟨vp01, v, rfl, g2⟩
  · exact h.elim
def kL_append : List zI := [
  (0, 1, .aload_n 0, [], 0),
  (1, 1, .iload_n 1, [], 0),
  (2, 3, .invokevirtual 35, [], 0),
  (5, 3, .goto 6, [11], 0),
  (8, 1, .astore_n 2, [], 0),
  (9, 1, .iconst 1, [], 1),
  (10, 1, .ireturn, [], 0),
  (11, 1, .iconst 0, [], 0),
  (12, 1, .ireturn, [], 0)]
theorem kL_append_ok : kL_append.all (zck cL_append) = true := by decide +kernel

theorem wL_35 : ∀ w ∈ [Cond.methodLink RL 35 yX8_append, Cond.initialized yX8_append.cls, Cond.code yX8_append cX8_append 2 (none), Cond.instanceMethod yX8_append, Cond.selects yX8_append.cls yX8_append yX8_append], w ∈ zts := (zall (zmem 711 (by decide +kernel) (by decide +kernel)) (zall (zmem 59 (by decide +kernel) (by decide +kernel)) (zall (zmem 714 (by decide +kernel) (by decide +kernel)) (zall (zmem 712 (by decide +kernel) (by decide +kernel)) (zall (zmem 713 (by decide +kernel) (by decide +kernel)) znil)))))
def rL_append : Room := { frames := 8, cells := 1, slots := 6, locals := 123 }
def hL_append : List zHd := [((0, 5, 8, 15), xS)]
theorem wL_append : zhw RL hL_append := zall zhq_xS (znil)
abbrev YL_append : zM := (RL, cL_append, 3, some .int, rL_append, UL, fun _ => none, zcs [(35, 2, 1, 6, zvs UL 8 (sLC sX8_append))] [])
def sL_append : List Value → zF → zO → Prop := fun as F ok => match as with
  | [.ref 495, .int p0] => sLv sX8_append [xS] [.ref 495, .int p0] F ok
  | _ => False
theorem uL_append : zMet UL yX8_append cX8_append 2 (none) rX8_append (sLC sX8_append) := zliftC mX8_append
theorem vL_append (ok : zO) : zCalX YL_append (zKl YL_append hL_append) (zQl YL_append ok) (zAl YL_append) (zxk YL_append hL_append ok) true 35 2 1 6 (zvsP UL 8 (sLC sX8_append)) := zcalL (Y := YL_append) (y := yX8_append) (cc := cX8_append) (nL := 2) (ret := none) (rm := rX8_append) uL_append 35 1 8 (T := TX8) rfl wL_35 ⟨by decide +kernel, by decide +kernel, by decide +kernel⟩ (by decide) ⟨Nat.le_of_ble_eq_true rfl, Nat.le_of_ble_eq_true rfl⟩
theorem YL_append_ok (ok : zO) : zXok YL_append (zKl YL_append hL_append) (zQl YL_append ok) (zAl YL_append) false (fun _ => 0) 0 (fun x F => ok (some (.int x)) F) (zxk YL_append hL_append ok) := zXok_L (zCalX_one (vl := [(35, 2, 1, 6, zvs UL 8 (sLC sX8_append))]) rfl (zall (zcalX_mono (vL_append ok) (fun _ _ _ _ g => zvs_P g)) znil))
theorem mL_append : zMetL UL yL_append cL_append 3 rL_append hL_append sL_append := by
  refine zmetL (Y := YL_append) rfl (by decide +kernel) ?_
  intro av F ok h
  unfold sL_append at h
  split at h
  · obtain ⟨ok', ex', F0, h0, h1, h2, h3⟩ := h
    refine zgoX_ok (YL_append_ok ok) znoX kL_append (List.all_eq_true.mp kL_append_ok) 0 _ _ _ _ _ ?_
    refine ⟨⟨by decide, by decide⟩, ok', ex', F0, h0, h1, fun q F' g => ?_, fun E F' g => ⟨⟨by decide +kernel, wL_append⟩, (h3 E F' g).1, (h3 E F' g).2⟩⟩
    obtain ⟨rfl, g2⟩ := h2 q F' g
    exact g2
  · exact h.elim
def kL_arrive : List zI := [
  (0, 1, .aload_n 1, [], 0),
  (1, 1, .iconst 0, [], 0),
  (2, 1, .aload_n 0, [], 0),
  (3, 3, .invokevirtual 39, [], 0),
  (6, 1, .i2l, [], 0),
  (7, 1, .lastore, [], 0),
  (8, 3, .goto 9, [17], 0),
  (11, 1, .astore_n 2, [], 0),
  (12, 1, .iconst 1, [], 1),
  (13, 1, .ireturn, [], 0),
  (14, 1, .astore_n 2, [], 0),
  (15, 1, .iconst 2, [], 2),
  (16, 1, .ireturn, [], 0),
  (17, 1, .iconst 0, [], 0),
  (18, 1, .ireturn, [], 0)]
theorem kL_arrive_ok : kL_arrive.all (zck cL_arrive) = true := by decide +kernel

theorem wL_39 : ∀ w ∈ [Cond.methodLink RL 39 yX8_arrive, Cond.initialized yX8_arrive.cls, Cond.code yX8_arrive cX8_arrive 2 (some .int), Cond.instanceMethod yX8_arrive, Cond.selects yX8_arrive.cls yX8_arrive yX8_arrive], w ∈ zts := (zall (zmem 723 (by decide +kernel) (by decide +kernel)) (zall (zmem 59 (by decide +kernel) (by decide +kernel)) (zall (zmem 726 (by decide +kernel) (by decide +kernel)) (zall (zmem 724 (by decide +kernel) (by decide +kernel)) (zall (zmem 725 (by decide +kernel) (by decide +kernel)) znil)))))
def rL_arrive : Room := { frames := 8, cells := 2, slots := 12, locals := 128 }
def hL_arrive : List zHd := [((0, 8, 11, 13), xA), ((0, 8, 14, 33), xU)]
theorem wL_arrive : zhw RL hL_arrive := zall zhq_xA (zall zhq_xU (znil))
abbrev YL_arrive : zM := (RL, cL_arrive, 3, some .int, rL_arrive, UL, fun _ => none, zcs [(39, 1, 2, 12, zvs UL 8 (sLC sX8_arrive))] [])
def sL_arrive : List Value → zF → zO → Prop := fun as F ok => match as with
  | [.ref 495, .ref 519] => sLl sX8_arrive [xA, xU] [.ref 495] F ok
  | _ => False
theorem uL_arrive : zMet UL yX8_arrive cX8_arrive 2 (some .int) rX8_arrive (sLC sX8_arrive) := zliftC mX8_arrive
theorem vL_arrive (ok : zO) : zCalX YL_arrive (zKl YL_arrive hL_arrive) (zQl YL_arrive ok) (zAl YL_arrive) (zxk YL_arrive hL_arrive ok) true 39 1 2 12 (zvsP UL 8 (sLC sX8_arrive)) := zcalL (Y := YL_arrive) (y := yX8_arrive) (cc := cX8_arrive) (nL := 2) (ret := some .int) (rm := rX8_arrive) uL_arrive 39 0 8 (T := TX8) rfl wL_39 ⟨by decide +kernel, by decide +kernel, by decide +kernel⟩ (by decide) ⟨Nat.le_of_ble_eq_true rfl, Nat.le_of_ble_eq_true rfl⟩
theorem YL_arrive_ok (ok : zO) : zXok YL_arrive (zKl YL_arrive hL_arrive) (zQl YL_arrive ok) (zAl YL_arrive) false (fun _ => 0) 0 (fun x F => ok (some (.int x)) F) (zxk YL_arrive hL_arrive ok) := zXok_L (zCalX_one (vl := [(39, 1, 2, 12, zvs UL 8 (sLC sX8_arrive))]) rfl (zall (zcalX_mono (vL_arrive ok) (fun _ _ _ _ g => zvs_P g)) znil))
theorem mL_arrive : zMetL UL yL_arrive cL_arrive 3 rL_arrive hL_arrive sL_arrive := by
  refine zmetL (Y := YL_arrive) rfl (by decide +kernel) ?_
  intro av F ok h
  unfold sL_arrive at h
  split at h
  · obtain ⟨ok', ex', F0, h0, h1, h2, h3⟩ := h
    refine zgoX_ok (YL_arrive_ok ok) znoX kL_arrive (List.all_eq_true.mp kL_arrive_ok) 0 _ _ _ _ _ ?_
    refine ⟨⟨by decide, by decide⟩, ok', ex', F0, h0, h1, fun q F' g => ?_, fun E F' g => ⟨⟨by decide +kernel, wL_arrive⟩, (h3 E F' g).1, (h3 E F' g).2⟩⟩
    obtain ⟨v, rfl, g2⟩ := h2 q F' g
    exact ⟨vp01, v, rfl, g2⟩
  · exact h.elim
def kL_join : List zI := [
  (0, 1, .aload_n 3, [], 0),
  (1, 1, .iconst 0, [], 0),
  (2, 1, .aload_n 0, [], 0),
  (3, 1, .iload_n 1, [], 0),
  (4, 1, .iload_n 2, [], 0),
  (5, 3, .invokevirtual 43, [], 0),
  (8, 1, .i2l, [], 0),
  (9, 1, .lastore, [], 0),
  (10, 3, .goto 7, [17], 0),
  (13, 2, .astore 4, [], 0),
  (15, 1, .iconst 1, [], 1),
  (16, 1, .ireturn, [], 0),
  (17, 1, .iconst 0, [], 0),
  (18, 1, .ireturn, [], 0)]
theorem kL_join_ok : kL_join.all (zck cL_join) = true := by decide +kernel

theorem wL_43 : ∀ w ∈ [Cond.methodLink RL 43 yX8_join, Cond.initialized yX8_join.cls, Cond.code yX8_join cX8_join 3 (some .int), Cond.instanceMethod yX8_join, Cond.selects yX8_join.cls yX8_join yX8_join], w ∈ zts := (zall (zmem 751 (by decide +kernel) (by decide +kernel)) (zall (zmem 59 (by decide +kernel) (by decide +kernel)) (zall (zmem 754 (by decide +kernel) (by decide +kernel)) (zall (zmem 752 (by decide +kernel) (by decide +kernel)) (zall (zmem 753 (by decide +kernel) (by decide +kernel)) znil)))))
def rL_join : Room := { frames := 8, cells := 1, slots := 6, locals := 129 }
def hL_join : List zHd := [((0, 10, 13, 33), xU)]
theorem wL_join : zhw RL hL_join := zall zhq_xU (znil)
abbrev YL_join : zM := (RL, cL_join, 5, some .int, rL_join, UL, fun _ => none, zcs [(43, 3, 1, 6, zvs UL 8 (sLC sX8_join))] [])
def sL_join : List Value → zF → zO → Prop := fun as F ok => match as with
  | [.ref 495, .int p0, .int p1, .ref 519] => sLl sX8_join [xU] [.ref 495, .int p0, .int p1] F ok
  | _ => False
theorem uL_join : zMet UL yX8_join cX8_join 3 (some .int) rX8_join (sLC sX8_join) := zliftC mX8_join
theorem vL_join (ok : zO) : zCalX YL_join (zKl YL_join hL_join) (zQl YL_join ok) (zAl YL_join) (zxk YL_join hL_join ok) true 43 3 1 6 (zvsP UL 8 (sLC sX8_join)) := zcalL (Y := YL_join) (y := yX8_join) (cc := cX8_join) (nL := 3) (ret := some .int) (rm := rX8_join) uL_join 43 2 8 (T := TX8) rfl wL_43 ⟨by decide +kernel, by decide +kernel, by decide +kernel⟩ (by decide) ⟨Nat.le_of_ble_eq_true rfl, Nat.le_of_ble_eq_true rfl⟩
theorem YL_join_ok (ok : zO) : zXok YL_join (zKl YL_join hL_join) (zQl YL_join ok) (zAl YL_join) false (fun _ => 0) 0 (fun x F => ok (some (.int x)) F) (zxk YL_join hL_join ok) := zXok_L (zCalX_one (vl := [(43, 3, 1, 6, zvs UL 8 (sLC sX8_join))]) rfl (zall (zcalX_mono (vL_join ok) (fun _ _ _ _ g => zvs_P g)) znil))
theorem mL_join : zMetL UL yL_join cL_join 5 rL_join hL_join sL_join := by
  refine zmetL (Y := YL_join) rfl (by decide +kernel) ?_
  intro av F ok h
  unfold sL_join at h
  split at h
  · obtain ⟨ok', ex', F0, h0, h1, h2, h3⟩ := h
    refine zgoX_ok (YL_join_ok ok) znoX kL_join (List.all_eq_true.mp kL_join_ok) 0 _ _ _ _ _ ?_
    refine ⟨⟨by decide, by decide⟩, ok', ex', F0, h0, h1, fun q F' g => ?_, fun E F' g => ⟨⟨by decide +kernel, wL_join⟩, (h3 E F' g).1, (h3 E F' g).2⟩⟩
    obtain ⟨v, rfl, g2⟩ := h2 q F' g
    exact ⟨vp01, v, rfl, g2⟩
  · exact h.elim
def kL_part : List zI := [
  (0, 1, .aload_n 2, [], 0),
  (1, 1, .iconst 0, [], 0),
  (2, 1, .aload_n 0, [], 0),
  (3, 1, .iload_n 1, [], 0),
  (4, 3, .invokevirtual 46, [], 0),
  (7, 1, .i2l, [], 0),
  (8, 1, .lastore, [], 0),
  (9, 3, .goto 6, [15], 0),
  (12, 1, .astore_n 3, [], 0),
  (13, 1, .iconst 1, [], 1),
  (14, 1, .ireturn, [], 0),
  (15, 1, .iconst 0, [], 0),
  (16, 1, .ireturn, [], 0)]
theorem kL_part_ok : kL_part.all (zck cL_part) = true := by decide +kernel

theorem wL_46 : ∀ w ∈ [Cond.methodLink RL 46 yX8_part, Cond.initialized yX8_part.cls, Cond.code yX8_part cX8_part 3 (some .int), Cond.instanceMethod yX8_part, Cond.selects yX8_part.cls yX8_part yX8_part], w ∈ zts := (zall (zmem 784 (by decide +kernel) (by decide +kernel)) (zall (zmem 59 (by decide +kernel) (by decide +kernel)) (zall (zmem 787 (by decide +kernel) (by decide +kernel)) (zall (zmem 785 (by decide +kernel) (by decide +kernel)) (zall (zmem 786 (by decide +kernel) (by decide +kernel)) znil)))))
def rL_part : Room := { frames := 8, cells := 1, slots := 6, locals := 129 }
def hL_part : List zHd := [((0, 9, 12, 33), xU)]
theorem wL_part : zhw RL hL_part := zall zhq_xU (znil)
abbrev YL_part : zM := (RL, cL_part, 4, some .int, rL_part, UL, fun _ => none, zcs [(46, 2, 1, 6, zvs UL 8 (sLC sX8_part))] [])
def sL_part : List Value → zF → zO → Prop := fun as F ok => match as with
  | [.ref 495, .int p0, .ref 519] => sLl sX8_part [xU] [.ref 495, .int p0] F ok
  | _ => False
theorem uL_part : zMet UL yX8_part cX8_part 3 (some .int) rX8_part (sLC sX8_part) := zliftC mX8_part
theorem vL_part (ok : zO) : zCalX YL_part (zKl YL_part hL_part) (zQl YL_part ok) (zAl YL_part) (zxk YL_part hL_part ok) true 46 2 1 6 (zvsP UL 8 (sLC sX8_part)) := zcalL (Y := YL_part) (y := yX8_part) (cc := cX8_part) (nL := 3) (ret := some .int) (rm := rX8_part) uL_part 46 1 8 (T := TX8) rfl wL_46 ⟨by decide +kernel, by decide +kernel, by decide +kernel⟩ (by decide) ⟨Nat.le_of_ble_eq_true rfl, Nat.le_of_ble_eq_true rfl⟩
theorem YL_part_ok (ok : zO) : zXok YL_part (zKl YL_part hL_part) (zQl YL_part ok) (zAl YL_part) false (fun _ => 0) 0 (fun x F => ok (some (.int x)) F) (zxk YL_part hL_part ok) := zXok_L (zCalX_one (vl := [(46, 2, 1, 6, zvs UL 8 (sLC sX8_part))]) rfl (zall (zcalX_mono (vL_part ok) (fun _ _ _ _ g => zvs_P g)) znil))
theorem mL_part : zMetL UL yL_part cL_part 4 rL_part hL_part sL_part := by
  refine zmetL (Y := YL_part) rfl (by decide +kernel) ?_
  intro av F ok h
  unfold sL_part at h
  split at h
  · obtain ⟨ok', ex', F0, h0, h1, h2, h3⟩ := h
    refine zgoX_ok (YL_part_ok ok) znoX kL_part (List.all_eq_true.mp kL_part_ok) 0 _ _ _ _ _ ?_
    refine ⟨⟨by decide, by decide⟩, ok', ex', F0, h0, h1, fun q F' g => ?_, fun E F' g => ⟨⟨by decide +kernel, wL_part⟩, (h3 E F' g).1, (h3 E F' g).2⟩⟩
    obtain ⟨v, rfl, g2⟩ := h2 q F' g
    exact ⟨vp01, v, rfl, g2⟩
  · exact h.elim
def kL_refusal : List zI := [
  (0, 1, .aload_n 1, [], 0),
  (1, 1, .iconst 0, [], 0),
  (2, 1, .aload_n 0, [], 0),
  (3, 3, .invokevirtual 50, [], 0),
  (6, 1, .i2l, [], 0),
  (7, 1, .lastore, [], 0),
  (8, 3, .goto 6, [14], 0),
  (11, 1, .astore_n 2, [], 0),
  (12, 1, .iconst 1, [], 1),
  (13, 1, .ireturn, [], 0),
  (14, 1, .iconst 0, [], 0),
  (15, 1, .ireturn, [], 0)]
theorem kL_refusal_ok : kL_refusal.all (zck cL_refusal) = true := by decide +kernel

theorem wL_50 : ∀ w ∈ [Cond.methodLink RL 50 yX8_refusal, Cond.initialized yX8_refusal.cls, Cond.code yX8_refusal cX8_refusal 1 (some .int), Cond.instanceMethod yX8_refusal, Cond.selects yX8_refusal.cls yX8_refusal yX8_refusal], w ∈ zts := (zall (zmem 804 (by decide +kernel) (by decide +kernel)) (zall (zmem 59 (by decide +kernel) (by decide +kernel)) (zall (zmem 807 (by decide +kernel) (by decide +kernel)) (zall (zmem 805 (by decide +kernel) (by decide +kernel)) (zall (zmem 806 (by decide +kernel) (by decide +kernel)) znil)))))
def rL_refusal : Room := { frames := 8, cells := 1, slots := 6, locals := 122 }
def hL_refusal : List zHd := [((0, 8, 11, 53), xE)]
theorem wL_refusal : zhw RL hL_refusal := zall zhq_xE (znil)
abbrev YL_refusal : zM := (RL, cL_refusal, 3, some .int, rL_refusal, UL, fun _ => none, zcs [(50, 1, 1, 6, zvs UL 8 (sLC sX8_refusal))] [])
def sL_refusal : List Value → zF → zO → Prop := fun as F ok => match as with
  | [.ref 495, .ref 519] => sLl sX8_refusal [xE] [.ref 495] F ok
  | _ => False
theorem uL_refusal : zMet UL yX8_refusal cX8_refusal 1 (some .int) rX8_refusal (sLC sX8_refusal) := zliftC mX8_refusal
theorem vL_refusal (ok : zO) : zCalX YL_refusal (zKl YL_refusal hL_refusal) (zQl YL_refusal ok) (zAl YL_refusal) (zxk YL_refusal hL_refusal ok) true 50 1 1 6 (zvsP UL 8 (sLC sX8_refusal)) := zcalL (Y := YL_refusal) (y := yX8_refusal) (cc := cX8_refusal) (nL := 1) (ret := some .int) (rm := rX8_refusal) uL_refusal 50 0 8 (T := TX8) rfl wL_50 ⟨by decide +kernel, by decide +kernel, by decide +kernel⟩ (by decide) ⟨Nat.le_of_ble_eq_true rfl, Nat.le_of_ble_eq_true rfl⟩
theorem YL_refusal_ok (ok : zO) : zXok YL_refusal (zKl YL_refusal hL_refusal) (zQl YL_refusal ok) (zAl YL_refusal) false (fun _ => 0) 0 (fun x F => ok (some (.int x)) F) (zxk YL_refusal hL_refusal ok) := zXok_L (zCalX_one (vl := [(50, 1, 1, 6, zvs UL 8 (sLC sX8_refusal))]) rfl (zall (zcalX_mono (vL_refusal ok) (fun _ _ _ _ g => zvs_P g)) znil))
theorem mL_refusal : zMetL UL yL_refusal cL_refusal 3 rL_refusal hL_refusal sL_refusal := by
  refine zmetL (Y := YL_refusal) rfl (by decide +kernel) ?_
  intro av F ok h
  unfold sL_refusal at h
  split at h
  · obtain ⟨ok', ex', F0, h0, h1, h2, h3⟩ := h
    refine zgoX_ok (YL_refusal_ok ok) znoX kL_refusal (List.all_eq_true.mp kL_refusal_ok) 0 _ _ _ _ _ ?_
    refine ⟨⟨by decide, by decide⟩, ok', ex', F0, h0, h1, fun q F' g => ?_, fun E F' g => ⟨⟨by decide +kernel, wL_refusal⟩, (h3 E F' g).1, (h3 E F' g).2⟩⟩
    obtain ⟨v, rfl, g2⟩ := h2 q F' g
    exact ⟨vp01, v, rfl, g2⟩
  · exact h.elim
def kL_ship : List zI := [
  (0, 1, .aload_n 3, [], 0),
  (1, 1, .iconst 0, [], 0),
  (2, 1, .aload_n 0, [], 0),
  (3, 1, .iload_n 1, [], 0),
  (4, 1, .iload_n 2, [], 0),
  (5, 3, .invokevirtual 55, [], 0),
  (8, 1, .i2l, [], 0),
  (9, 1, .lastore, [], 0),
  (10, 3, .goto 11, [21], 0),
  (13, 2, .astore 4, [], 0),
  (15, 1, .iconst 1, [], 1),
  (16, 1, .ireturn, [], 0),
  (17, 2, .astore 4, [], 0),
  (19, 1, .iconst 2, [], 2),
  (20, 1, .ireturn, [], 0),
  (21, 1, .iconst 0, [], 0),
  (22, 1, .ireturn, [], 0)]
theorem kL_ship_ok : kL_ship.all (zck cL_ship) = true := by decide +kernel

theorem wL_55 : ∀ w ∈ [Cond.methodLink RL 55 yX8_ship, Cond.initialized yX8_ship.cls, Cond.code yX8_ship cX8_ship 3 (some .int), Cond.instanceMethod yX8_ship, Cond.selects yX8_ship.cls yX8_ship yX8_ship], w ∈ zts := (zall (zmem 830 (by decide +kernel) (by decide +kernel)) (zall (zmem 59 (by decide +kernel) (by decide +kernel)) (zall (zmem 833 (by decide +kernel) (by decide +kernel)) (zall (zmem 831 (by decide +kernel) (by decide +kernel)) (zall (zmem 832 (by decide +kernel) (by decide +kernel)) znil)))))
def rL_ship : Room := { frames := 8, cells := 2, slots := 12, locals := 125 }
def hL_ship : List zHd := [((0, 10, 13, 21), xI), ((0, 10, 17, 13), xA)]
theorem wL_ship : zhw RL hL_ship := zall zhq_xI (zall zhq_xA (znil))
abbrev YL_ship : zM := (RL, cL_ship, 5, some .int, rL_ship, UL, fun _ => none, zcs [(55, 3, 2, 12, zvs UL 8 (sLC sX8_ship))] [])
def sL_ship : List Value → zF → zO → Prop := fun as F ok => match as with
  | [.ref 495, .int p0, .int p1, .ref 519] => sLl sX8_ship [xI, xA] [.ref 495, .int p0, .int p1] F ok
  | _ => False
theorem uL_ship : zMet UL yX8_ship cX8_ship 3 (some .int) rX8_ship (sLC sX8_ship) := zliftC mX8_ship
theorem vL_ship (ok : zO) : zCalX YL_ship (zKl YL_ship hL_ship) (zQl YL_ship ok) (zAl YL_ship) (zxk YL_ship hL_ship ok) true 55 3 2 12 (zvsP UL 8 (sLC sX8_ship)) := zcalL (Y := YL_ship) (y := yX8_ship) (cc := cX8_ship) (nL := 3) (ret := some .int) (rm := rX8_ship) uL_ship 55 2 8 (T := TX8) rfl wL_55 ⟨by decide +kernel, by decide +kernel, by decide +kernel⟩ (by decide) ⟨Nat.le_of_ble_eq_true rfl, Nat.le_of_ble_eq_true rfl⟩
theorem YL_ship_ok (ok : zO) : zXok YL_ship (zKl YL_ship hL_ship) (zQl YL_ship ok) (zAl YL_ship) false (fun _ => 0) 0 (fun x F => ok (some (.int x)) F) (zxk YL_ship hL_ship ok) := zXok_L (zCalX_one (vl := [(55, 3, 2, 12, zvs UL 8 (sLC sX8_ship))]) rfl (zall (zcalX_mono (vL_ship ok) (fun _ _ _ _ g => zvs_P g)) znil))
theorem mL_ship : zMetL UL yL_ship cL_ship 5 rL_ship hL_ship sL_ship := by
  refine zmetL (Y := YL_ship) rfl (by decide +kernel) ?_
  intro av F ok h
  unfold sL_ship at h
  split at h
  · obtain ⟨ok', ex', F0, h0, h1, h2, h3⟩ := h
    refine zgoX_ok (YL_ship_ok ok) znoX kL_ship (List.all_eq_true.mp kL_ship_ok) 0 _ _ _ _ _ ?_
    refine ⟨⟨by decide, by decide⟩, ok', ex', F0, h0, h1, fun q F' g => ?_, fun E F' g => ⟨⟨by decide +kernel, wL_ship⟩, (h3 E F' g).1, (h3 E F' g).2⟩⟩
    obtain ⟨v, rfl, g2⟩ := h2 q F' g
    exact ⟨vp01, v, rfl, g2⟩
  · exact h.elim
def kL_convoy : List zI := [
  (0, 1, .aload_n 3, [], 0),
  (1, 1, .iconst 0, [], 0),
  (2, 1, .aload_n 0, [], 0),
  (3, 1, .iload_n 1, [], 0),
  (4, 1, .iload_n 2, [], 0),
  (5, 3, .invokevirtual 58, [], 0),
  (8, 1, .i2l, [], 0),
  (9, 1, .lastore, [], 0),
  (10, 3, .goto 11, [21], 0),
  (13, 2, .astore 4, [], 0),
  (15, 1, .iconst 1, [], 1),
  (16, 1, .ireturn, [], 0),
  (17, 2, .astore 4, [], 0),
  (19, 1, .iconst 2, [], 2),
  (20, 1, .ireturn, [], 0),
  (21, 1, .iconst 0, [], 0),
  (22, 1, .ireturn, [], 0)]
theorem kL_convoy_ok : kL_convoy.all (zck cL_convoy) = true := by decide +kernel

theorem wL_58 : ∀ w ∈ [Cond.methodLink RL 58 yX8_convoy, Cond.initialized yX8_convoy.cls, Cond.code yX8_convoy cX8_convoy 4 (some .int), Cond.instanceMethod yX8_convoy, Cond.selects yX8_convoy.cls yX8_convoy yX8_convoy], w ∈ zts := (zall (zmem 843 (by decide +kernel) (by decide +kernel)) (zall (zmem 59 (by decide +kernel) (by decide +kernel)) (zall (zmem 846 (by decide +kernel) (by decide +kernel)) (zall (zmem 844 (by decide +kernel) (by decide +kernel)) (zall (zmem 845 (by decide +kernel) (by decide +kernel)) znil)))))
def rL_convoy : Room := { frames := 8, cells := 2, slots := 12, locals := 126 }
def hL_convoy : List zHd := [((0, 10, 13, 21), xI), ((0, 10, 17, 53), xE)]
theorem wL_convoy : zhw RL hL_convoy := zall zhq_xI (zall zhq_xE (znil))
abbrev YL_convoy : zM := (RL, cL_convoy, 5, some .int, rL_convoy, UL, fun _ => none, zcs [(58, 3, 2, 12, zvs UL 8 (sLC sX8_convoy))] [])
def sL_convoy : List Value → zF → zO → Prop := fun as F ok => match as with
  | [.ref 495, .int p0, .int p1, .ref 519] => sLl sX8_convoy [xI, xE] [.ref 495, .int p0, .int p1] F ok
  | _ => False
theorem uL_convoy : zMet UL yX8_convoy cX8_convoy 4 (some .int) rX8_convoy (sLC sX8_convoy) := zliftC mX8_convoy
theorem vL_convoy (ok : zO) : zCalX YL_convoy (zKl YL_convoy hL_convoy) (zQl YL_convoy ok) (zAl YL_convoy) (zxk YL_convoy hL_convoy ok) true 58 3 2 12 (zvsP UL 8 (sLC sX8_convoy)) := zcalL (Y := YL_convoy) (y := yX8_convoy) (cc := cX8_convoy) (nL := 4) (ret := some .int) (rm := rX8_convoy) uL_convoy 58 2 8 (T := TX8) rfl wL_58 ⟨by decide +kernel, by decide +kernel, by decide +kernel⟩ (by decide) ⟨Nat.le_of_ble_eq_true rfl, Nat.le_of_ble_eq_true rfl⟩
theorem YL_convoy_ok (ok : zO) : zXok YL_convoy (zKl YL_convoy hL_convoy) (zQl YL_convoy ok) (zAl YL_convoy) false (fun _ => 0) 0 (fun x F => ok (some (.int x)) F) (zxk YL_convoy hL_convoy ok) := zXok_L (zCalX_one (vl := [(58, 3, 2, 12, zvs UL 8 (sLC sX8_convoy))]) rfl (zall (zcalX_mono (vL_convoy ok) (fun _ _ _ _ g => zvs_P g)) znil))
theorem mL_convoy : zMetL UL yL_convoy cL_convoy 5 rL_convoy hL_convoy sL_convoy := by
  refine zmetL (Y := YL_convoy) rfl (by decide +kernel) ?_
  intro av F ok h
  unfold sL_convoy at h
  split at h
  · obtain ⟨ok', ex', F0, h0, h1, h2, h3⟩ := h
    refine zgoX_ok (YL_convoy_ok ok) znoX kL_convoy (List.all_eq_true.mp kL_convoy_ok) 0 _ _ _ _ _ ?_
    refine ⟨⟨by decide, by decide⟩, ok', ex', F0, h0, h1, fun q F' g => ?_, fun E F' g => ⟨⟨by decide +kernel, wL_convoy⟩, (h3 E F' g).1, (h3 E F' g).2⟩⟩
    obtain ⟨v, rfl, g2⟩ := h2 q F' g
    exact ⟨vp01, v, rfl, g2⟩
  · exact h.elim
def kL_waiting : List zI := [
  (0, 1, .aload_n 3, [], 0),
  (1, 1, .iconst 0, [], 0),
  (2, 1, .aload_n 0, [], 0),
  (3, 1, .iload_n 1, [], 0),
  (4, 1, .iload_n 2, [], 0),
  (5, 3, .invokevirtual 61, [], 0),
  (8, 1, .i2l, [], 0),
  (9, 1, .lastore, [], 0),
  (10, 3, .goto 11, [21], 0),
  (13, 2, .astore 4, [], 0),
  (15, 1, .iconst 1, [], 1),
  (16, 1, .ireturn, [], 0),
  (17, 2, .astore 4, [], 0),
  (19, 1, .iconst 2, [], 2),
  (20, 1, .ireturn, [], 0),
  (21, 1, .iconst 0, [], 0),
  (22, 1, .ireturn, [], 0)]
theorem kL_waiting_ok : kL_waiting.all (zck cL_waiting) = true := by decide +kernel

theorem wL_61 : ∀ w ∈ [Cond.methodLink RL 61 yX8_waiting, Cond.initialized yX8_waiting.cls, Cond.code yX8_waiting cX8_waiting 4 (some .int), Cond.instanceMethod yX8_waiting, Cond.selects yX8_waiting.cls yX8_waiting yX8_waiting], w ∈ zts := (zall (zmem 851 (by decide +kernel) (by decide +kernel)) (zall (zmem 59 (by decide +kernel) (by decide +kernel)) (zall (zmem 854 (by decide +kernel) (by decide +kernel)) (zall (zmem 852 (by decide +kernel) (by decide +kernel)) (zall (zmem 853 (by decide +kernel) (by decide +kernel)) znil)))))
def rL_waiting : Room := { frames := 8, cells := 2, slots := 12, locals := 160 }
def hL_waiting : List zHd := [((0, 10, 13, 21), xI), ((0, 10, 17, 53), xE)]
theorem wL_waiting : zhw RL hL_waiting := zall zhq_xI (zall zhq_xE (znil))
abbrev YL_waiting : zM := (RL, cL_waiting, 5, some .int, rL_waiting, UL, fun _ => none, zcs [(61, 3, 2, 12, zvs UL 8 (sLC sX8_waiting))] [])
def sL_waiting : List Value → zF → zO → Prop := fun as F ok => match as with
  | [.ref 495, .int p0, .int p1, .ref 519] => sLl sX8_waiting [xI, xE] [.ref 495, .int p0, .int p1] F ok
  | _ => False
theorem uL_waiting : zMet UL yX8_waiting cX8_waiting 4 (some .int) rX8_waiting (sLC sX8_waiting) := zliftC mX8_waiting
theorem vL_waiting (ok : zO) : zCalX YL_waiting (zKl YL_waiting hL_waiting) (zQl YL_waiting ok) (zAl YL_waiting) (zxk YL_waiting hL_waiting ok) true 61 3 2 12 (zvsP UL 8 (sLC sX8_waiting)) := zcalL (Y := YL_waiting) (y := yX8_waiting) (cc := cX8_waiting) (nL := 4) (ret := some .int) (rm := rX8_waiting) uL_waiting 61 2 8 (T := TX8) rfl wL_61 ⟨by decide +kernel, by decide +kernel, by decide +kernel⟩ (by decide) ⟨Nat.le_of_ble_eq_true rfl, Nat.le_of_ble_eq_true rfl⟩
theorem YL_waiting_ok (ok : zO) : zXok YL_waiting (zKl YL_waiting hL_waiting) (zQl YL_waiting ok) (zAl YL_waiting) false (fun _ => 0) 0 (fun x F => ok (some (.int x)) F) (zxk YL_waiting hL_waiting ok) := zXok_L (zCalX_one (vl := [(61, 3, 2, 12, zvs UL 8 (sLC sX8_waiting))]) rfl (zall (zcalX_mono (vL_waiting ok) (fun _ _ _ _ g => zvs_P g)) znil))
theorem mL_waiting : zMetL UL yL_waiting cL_waiting 5 rL_waiting hL_waiting sL_waiting := by
  refine zmetL (Y := YL_waiting) rfl (by decide +kernel) ?_
  intro av F ok h
  unfold sL_waiting at h
  split at h
  · obtain ⟨ok', ex', F0, h0, h1, h2, h3⟩ := h
    refine zgoX_ok (YL_waiting_ok ok) znoX kL_waiting (List.all_eq_true.mp kL_waiting_ok) 0 _ _ _ _ _ ?_
    refine ⟨⟨by decide, by decide⟩, ok', ex', F0, h0, h1, fun q F' g => ?_, fun E F' g => ⟨⟨by decide +kernel, wL_waiting⟩, (h3 E F' g).1, (h3 E F' g).2⟩⟩
    obtain ⟨v, rfl, g2⟩ := h2 q F' g
    exact ⟨vp01, v, rfl, g2⟩
  · exact h.elim
def kL_priority : List zI := [
  (0, 1, .aload_n 2, [], 0),
  (1, 1, .iconst 0, [], 0),
  (2, 1, .aload_n 0, [], 0),
  (3, 1, .iload_n 1, [], 0),
  (4, 3, .invokevirtual 64, [], 0),
  (7, 1, .i2l, [], 0),
  (8, 1, .lastore, [], 0),
  (9, 3, .goto 9, [18], 0),
  (12, 1, .astore_n 3, [], 0),
  (13, 1, .iconst 1, [], 1),
  (14, 1, .ireturn, [], 0),
  (15, 1, .astore_n 3, [], 0),
  (16, 1, .iconst 2, [], 2),
  (17, 1, .ireturn, [], 0),
  (18, 1, .iconst 0, [], 0),
  (19, 1, .ireturn, [], 0)]
theorem kL_priority_ok : kL_priority.all (zck cL_priority) = true := by decide +kernel

theorem wL_64 : ∀ w ∈ [Cond.methodLink RL 64 yX8_priority, Cond.initialized yX8_priority.cls, Cond.code yX8_priority cX8_priority 2 (some .int), Cond.instanceMethod yX8_priority, Cond.selects yX8_priority.cls yX8_priority yX8_priority], w ∈ zts := (zall (zmem 883 (by decide +kernel) (by decide +kernel)) (zall (zmem 59 (by decide +kernel) (by decide +kernel)) (zall (zmem 886 (by decide +kernel) (by decide +kernel)) (zall (zmem 884 (by decide +kernel) (by decide +kernel)) (zall (zmem 885 (by decide +kernel) (by decide +kernel)) znil)))))
def rL_priority : Room := { frames := 8, cells := 2, slots := 12, locals := 124 }
def hL_priority : List zHd := [((0, 9, 12, 21), xI), ((0, 9, 15, 15), xS)]
theorem wL_priority : zhw RL hL_priority := zall zhq_xI (zall zhq_xS (znil))
abbrev YL_priority : zM := (RL, cL_priority, 4, some .int, rL_priority, UL, fun _ => none, zcs [(64, 2, 2, 12, zvs UL 8 (sLC sX8_priority))] [])
def sL_priority : List Value → zF → zO → Prop := fun as F ok => match as with
  | [.ref 495, .int p0, .ref 519] => sLl sX8_priority [xI, xS] [.ref 495, .int p0] F ok
  | _ => False
theorem uL_priority : zMet UL yX8_priority cX8_priority 2 (some .int) rX8_priority (sLC sX8_priority) := zliftC mX8_priority
theorem vL_priority (ok : zO) : zCalX YL_priority (zKl YL_priority hL_priority) (zQl YL_priority ok) (zAl YL_priority) (zxk YL_priority hL_priority ok) true 64 2 2 12 (zvsP UL 8 (sLC sX8_priority)) := zcalL (Y := YL_priority) (y := yX8_priority) (cc := cX8_priority) (nL := 2) (ret := some .int) (rm := rX8_priority) uL_priority 64 1 8 (T := TX8) rfl wL_64 ⟨by decide +kernel, by decide +kernel, by decide +kernel⟩ (by decide) ⟨Nat.le_of_ble_eq_true rfl, Nat.le_of_ble_eq_true rfl⟩
theorem YL_priority_ok (ok : zO) : zXok YL_priority (zKl YL_priority hL_priority) (zQl YL_priority ok) (zAl YL_priority) false (fun _ => 0) 0 (fun x F => ok (some (.int x)) F) (zxk YL_priority hL_priority ok) := zXok_L (zCalX_one (vl := [(64, 2, 2, 12, zvs UL 8 (sLC sX8_priority))]) rfl (zall (zcalX_mono (vL_priority ok) (fun _ _ _ _ g => zvs_P g)) znil))
theorem mL_priority : zMetL UL yL_priority cL_priority 4 rL_priority hL_priority sL_priority := by
  refine zmetL (Y := YL_priority) rfl (by decide +kernel) ?_
  intro av F ok h
  unfold sL_priority at h
  split at h
  · obtain ⟨ok', ex', F0, h0, h1, h2, h3⟩ := h
    refine zgoX_ok (YL_priority_ok ok) znoX kL_priority (List.all_eq_true.mp kL_priority_ok) 0 _ _ _ _ _ ?_
    refine ⟨⟨by decide, by decide⟩, ok', ex', F0, h0, h1, fun q F' g => ?_, fun E F' g => ⟨⟨by decide +kernel, wL_priority⟩, (h3 E F' g).1, (h3 E F' g).2⟩⟩
    obtain ⟨v, rfl, g2⟩ := h2 q F' g
    exact ⟨vp01, v, rfl, g2⟩
  · exact h.elim
def kL_hindrance : List zI := [
  (0, 1, .aload_n 2, [], 0),
  (1, 1, .iconst 0, [], 0),
  (2, 1, .aload_n 0, [], 0),
  (3, 1, .iload_n 1, [], 0),
  (4, 3, .invokevirtual 67, [], 0),
  (7, 1, .i2l, [], 0),
  (8, 1, .lastore, [], 0),
  (9, 3, .goto 9, [18], 0),
  (12, 1, .astore_n 3, [], 0),
  (13, 1, .iconst 1, [], 1),
  (14, 1, .ireturn, [], 0),
  (15, 1, .astore_n 3, [], 0),
  (16, 1, .iconst 2, [], 2),
  (17, 1, .ireturn, [], 0),
  (18, 1, .iconst 0, [], 0),
  (19, 1, .ireturn, [], 0)]
theorem kL_hindrance_ok : kL_hindrance.all (zck cL_hindrance) = true := by decide +kernel

theorem wL_67 : ∀ w ∈ [Cond.methodLink RL 67 yX8_hindrance, Cond.initialized yX8_hindrance.cls, Cond.code yX8_hindrance cX8_hindrance 2 (some .int), Cond.instanceMethod yX8_hindrance, Cond.selects yX8_hindrance.cls yX8_hindrance yX8_hindrance], w ∈ zts := (zall (zmem 891 (by decide +kernel) (by decide +kernel)) (zall (zmem 59 (by decide +kernel) (by decide +kernel)) (zall (zmem 894 (by decide +kernel) (by decide +kernel)) (zall (zmem 892 (by decide +kernel) (by decide +kernel)) (zall (zmem 893 (by decide +kernel) (by decide +kernel)) znil)))))
def rL_hindrance : Room := { frames := 8, cells := 2, slots := 12, locals := 131 }
def hL_hindrance : List zHd := [((0, 9, 12, 21), xI), ((0, 9, 15, 15), xS)]
theorem wL_hindrance : zhw RL hL_hindrance := zall zhq_xI (zall zhq_xS (znil))
abbrev YL_hindrance : zM := (RL, cL_hindrance, 4, some .int, rL_hindrance, UL, fun _ => none, zcs [(67, 2, 2, 12, zvs UL 8 (sLC sX8_hindrance))] [])
def sL_hindrance : List Value → zF → zO → Prop := fun as F ok => match as with
  | [.ref 495, .int p0, .ref 519] => sLl sX8_hindrance [xI, xS] [.ref 495, .int p0] F ok
  | _ => False
theorem uL_hindrance : zMet UL yX8_hindrance cX8_hindrance 2 (some .int) rX8_hindrance (sLC sX8_hindrance) := zliftC mX8_hindrance
theorem vL_hindrance (ok : zO) : zCalX YL_hindrance (zKl YL_hindrance hL_hindrance) (zQl YL_hindrance ok) (zAl YL_hindrance) (zxk YL_hindrance hL_hindrance ok) true 67 2 2 12 (zvsP UL 8 (sLC sX8_hindrance)) := zcalL (Y := YL_hindrance) (y := yX8_hindrance) (cc := cX8_hindrance) (nL := 2) (ret := some .int) (rm := rX8_hindrance) uL_hindrance 67 1 8 (T := TX8) rfl wL_67 ⟨by decide +kernel, by decide +kernel, by decide +kernel⟩ (by decide) ⟨Nat.le_of_ble_eq_true rfl, Nat.le_of_ble_eq_true rfl⟩
theorem YL_hindrance_ok (ok : zO) : zXok YL_hindrance (zKl YL_hindrance hL_hindrance) (zQl YL_hindrance ok) (zAl YL_hindrance) false (fun _ => 0) 0 (fun x F => ok (some (.int x)) F) (zxk YL_hindrance hL_hindrance ok) := zXok_L (zCalX_one (vl := [(67, 2, 2, 12, zvs UL 8 (sLC sX8_hindrance))]) rfl (zall (zcalX_mono (vL_hindrance ok) (fun _ _ _ _ g => zvs_P g)) znil))
theorem mL_hindrance : zMetL UL yL_hindrance cL_hindrance 4 rL_hindrance hL_hindrance sL_hindrance := by
  refine zmetL (Y := YL_hindrance) rfl (by decide +kernel) ?_
  intro av F ok h
  unfold sL_hindrance at h
  split at h
  · obtain ⟨ok', ex', F0, h0, h1, h2, h3⟩ := h
    refine zgoX_ok (YL_hindrance_ok ok) znoX kL_hindrance (List.all_eq_true.mp kL_hindrance_ok) 0 _ _ _ _ _ ?_
    refine ⟨⟨by decide, by decide⟩, ok', ex', F0, h0, h1, fun q F' g => ?_, fun E F' g => ⟨⟨by decide +kernel, wL_hindrance⟩, (h3 E F' g).1, (h3 E F' g).2⟩⟩
    obtain ⟨v, rfl, g2⟩ := h2 q F' g
    exact ⟨vp01, v, rfl, g2⟩
  · exact h.elim
def kL_pass : List zI := [
  (0, 1, .aload_n 2, [], 0),
  (1, 1, .iconst 0, [], 0),
  (2, 1, .aload_n 0, [], 0),
  (3, 1, .iload_n 1, [], 0),
  (4, 3, .invokevirtual 70, [], 0),
  (7, 1, .i2l, [], 0),
  (8, 1, .lastore, [], 0),
  (9, 3, .goto 9, [18], 0),
  (12, 1, .astore_n 3, [], 0),
  (13, 1, .iconst 1, [], 1),
  (14, 1, .ireturn, [], 0),
  (15, 1, .astore_n 3, [], 0),
  (16, 1, .iconst 2, [], 2),
  (17, 1, .ireturn, [], 0),
  (18, 1, .iconst 0, [], 0),
  (19, 1, .ireturn, [], 0)]
theorem kL_pass_ok : kL_pass.all (zck cL_pass) = true := by decide +kernel

theorem wL_70 : ∀ w ∈ [Cond.methodLink RL 70 yX8_pass, Cond.initialized yX8_pass.cls, Cond.code yX8_pass cX8_pass 4 (some .int), Cond.instanceMethod yX8_pass, Cond.selects yX8_pass.cls yX8_pass yX8_pass], w ∈ zts := (zall (zmem 939 (by decide +kernel) (by decide +kernel)) (zall (zmem 59 (by decide +kernel) (by decide +kernel)) (zall (zmem 942 (by decide +kernel) (by decide +kernel)) (zall (zmem 940 (by decide +kernel) (by decide +kernel)) (zall (zmem 941 (by decide +kernel) (by decide +kernel)) znil)))))
def rL_pass : Room := { frames := 8, cells := 2, slots := 12, locals := 162 }
def hL_pass : List zHd := [((0, 9, 12, 13), xA), ((0, 9, 15, 15), xS)]
theorem wL_pass : zhw RL hL_pass := zall zhq_xA (zall zhq_xS (znil))
abbrev YL_pass : zM := (RL, cL_pass, 4, some .int, rL_pass, UL, fun _ => none, zcs [(70, 2, 2, 12, zvs UL 8 (sLC sX8_pass))] [])
def sL_pass : List Value → zF → zO → Prop := fun as F ok => match as with
  | [.ref 495, .int p0, .ref 519] => sLl sX8_pass [xA, xS] [.ref 495, .int p0] F ok
  | _ => False
theorem uL_pass : zMet UL yX8_pass cX8_pass 4 (some .int) rX8_pass (sLC sX8_pass) := zliftC mX8_pass
theorem vL_pass (ok : zO) : zCalX YL_pass (zKl YL_pass hL_pass) (zQl YL_pass ok) (zAl YL_pass) (zxk YL_pass hL_pass ok) true 70 2 2 12 (zvsP UL 8 (sLC sX8_pass)) := zcalL (Y := YL_pass) (y := yX8_pass) (cc := cX8_pass) (nL := 4) (ret := some .int) (rm := rX8_pass) uL_pass 70 1 8 (T := TX8) rfl wL_70 ⟨by decide +kernel, by decide +kernel, by decide +kernel⟩ (by decide) ⟨Nat.le_of_ble_eq_true rfl, Nat.le_of_ble_eq_true rfl⟩
theorem YL_pass_ok (ok : zO) : zXok YL_pass (zKl YL_pass hL_pass) (zQl YL_pass ok) (zAl YL_pass) false (fun _ => 0) 0 (fun x F => ok (some (.int x)) F) (zxk YL_pass hL_pass ok) := zXok_L (zCalX_one (vl := [(70, 2, 2, 12, zvs UL 8 (sLC sX8_pass))]) rfl (zall (zcalX_mono (vL_pass ok) (fun _ _ _ _ g => zvs_P g)) znil))
theorem mL_pass : zMetL UL yL_pass cL_pass 4 rL_pass hL_pass sL_pass := by
  refine zmetL (Y := YL_pass) rfl (by decide +kernel) ?_
  intro av F ok h
  unfold sL_pass at h
  split at h
  · obtain ⟨ok', ex', F0, h0, h1, h2, h3⟩ := h
    refine zgoX_ok (YL_pass_ok ok) znoX kL_pass (List.all_eq_true.mp kL_pass_ok) 0 _ _ _ _ _ ?_
    refine ⟨⟨by decide, by decide⟩, ok', ex', F0, h0, h1, fun q F' g => ?_, fun E F' g => ⟨⟨by decide +kernel, wL_pass⟩, (h3 E F' g).1, (h3 E F' g).2⟩⟩
    obtain ⟨v, rfl, g2⟩ := h2 q F' g
    exact ⟨vp01, v, rfl, g2⟩
  · exact h.elim
def kL_untilLeft : List zI := [
  (0, 1, .aload_n 3, [], 0),
  (1, 1, .iconst 0, [], 0),
  (2, 1, .aload_n 0, [], 0),
  (3, 1, .iload_n 1, [], 0),
  (4, 1, .iload_n 2, [], 0),
  (5, 3, .invokevirtual 73, [], 0),
  (8, 1, .i2l, [], 0),
  (9, 1, .lastore, [], 0),
  (10, 3, .goto 19, [29], 0),
  (13, 2, .astore 4, [], 0),
  (15, 1, .iconst 1, [], 1),
  (16, 1, .ireturn, [], 0),
  (17, 2, .astore 4, [], 0),
  (19, 1, .iconst 2, [], 2),
  (20, 1, .ireturn, [], 0),
  (21, 2, .astore 4, [], 0),
  (23, 1, .iconst 3, [], 3),
  (24, 1, .ireturn, [], 0),
  (25, 2, .astore 4, [], 0),
  (27, 1, .iconst 4, [], 4),
  (28, 1, .ireturn, [], 0),
  (29, 1, .iconst 0, [], 0),
  (30, 1, .ireturn, [], 0)]
theorem kL_untilLeft_ok : kL_untilLeft.all (zck cL_untilLeft) = true := by decide +kernel

theorem wL_73 : ∀ w ∈ [Cond.methodLink RL 73 yX8_untilLeft, Cond.initialized yX8_untilLeft.cls, Cond.code yX8_untilLeft cX8_untilLeft 4 (some .int), Cond.instanceMethod yX8_untilLeft, Cond.selects yX8_untilLeft.cls yX8_untilLeft yX8_untilLeft], w ∈ zts := (zall (zmem 1010 (by decide +kernel) (by decide +kernel)) (zall (zmem 59 (by decide +kernel) (by decide +kernel)) (zall (zmem 1013 (by decide +kernel) (by decide +kernel)) (zall (zmem 1011 (by decide +kernel) (by decide +kernel)) (zall (zmem 1012 (by decide +kernel) (by decide +kernel)) znil)))))
def rL_untilLeft : Room := { frames := 8, cells := 4, slots := 24, locals := 162 }
def hL_untilLeft : List zHd := [((0, 10, 13, 21), xI), ((0, 10, 17, 13), xA), ((0, 10, 21, 15), xS), ((0, 10, 25, 53), xE)]
theorem wL_untilLeft : zhw RL hL_untilLeft := zall zhq_xI (zall zhq_xA (zall zhq_xS (zall zhq_xE (znil))))
abbrev YL_untilLeft : zM := (RL, cL_untilLeft, 5, some .int, rL_untilLeft, UL, fun _ => none, zcs [(73, 3, 4, 24, zvs UL 8 (sLC sX8_untilLeft))] [])
def sL_untilLeft : List Value → zF → zO → Prop := fun as F ok => match as with
  | [.ref 495, .int p0, .int p1, .ref 519] => sLl sX8_untilLeft [xI, xA, xS, xE] [.ref 495, .int p0, .int p1] F ok
  | _ => False
theorem uL_untilLeft : zMet UL yX8_untilLeft cX8_untilLeft 4 (some .int) rX8_untilLeft (sLC sX8_untilLeft) := zliftC mX8_untilLeft
theorem vL_untilLeft (ok : zO) : zCalX YL_untilLeft (zKl YL_untilLeft hL_untilLeft) (zQl YL_untilLeft ok) (zAl YL_untilLeft) (zxk YL_untilLeft hL_untilLeft ok) true 73 3 4 24 (zvsP UL 8 (sLC sX8_untilLeft)) := zcalL (Y := YL_untilLeft) (y := yX8_untilLeft) (cc := cX8_untilLeft) (nL := 4) (ret := some .int) (rm := rX8_untilLeft) uL_untilLeft 73 2 8 (T := TX8) rfl wL_73 ⟨by decide +kernel, by decide +kernel, by decide +kernel⟩ (by decide) ⟨Nat.le_of_ble_eq_true rfl, Nat.le_of_ble_eq_true rfl⟩
theorem YL_untilLeft_ok (ok : zO) : zXok YL_untilLeft (zKl YL_untilLeft hL_untilLeft) (zQl YL_untilLeft ok) (zAl YL_untilLeft) false (fun _ => 0) 0 (fun x F => ok (some (.int x)) F) (zxk YL_untilLeft hL_untilLeft ok) := zXok_L (zCalX_one (vl := [(73, 3, 4, 24, zvs UL 8 (sLC sX8_untilLeft))]) rfl (zall (zcalX_mono (vL_untilLeft ok) (fun _ _ _ _ g => zvs_P g)) znil))
theorem mL_untilLeft : zMetL UL yL_untilLeft cL_untilLeft 5 rL_untilLeft hL_untilLeft sL_untilLeft := by
  refine zmetL (Y := YL_untilLeft) rfl (by decide +kernel) ?_
  intro av F ok h
  unfold sL_untilLeft at h
  split at h
  · obtain ⟨ok', ex', F0, h0, h1, h2, h3⟩ := h
    refine zgoX_ok (YL_untilLeft_ok ok) znoX kL_untilLeft (List.all_eq_true.mp kL_untilLeft_ok) 0 _ _ _ _ _ ?_
    refine ⟨⟨by decide, by decide⟩, ok', ex', F0, h0, h1, fun q F' g => ?_, fun E F' g => ⟨⟨by decide +kernel, wL_untilLeft⟩, (h3 E F' g).1, (h3 E F' g).2⟩⟩
    obtain ⟨v, rfl, g2⟩ := h2 q F' g
    exact ⟨vp01, v, rfl, g2⟩
  · exact h.elim
def kL_account : List zI := [
  (0, 1, .aload_n 2, [], 0),
  (1, 1, .iconst 0, [], 0),
  (2, 1, .aload_n 0, [], 0),
  (3, 1, .iload_n 1, [], 0),
  (4, 3, .invokevirtual 76, [], 0),
  (7, 1, .i2l, [], 0),
  (8, 1, .lastore, [], 0),
  (9, 3, .goto 6, [15], 0),
  (12, 1, .astore_n 3, [], 0),
  (13, 1, .iconst 1, [], 1),
  (14, 1, .ireturn, [], 0),
  (15, 1, .iconst 0, [], 0),
  (16, 1, .ireturn, [], 0)]
theorem kL_account_ok : kL_account.all (zck cL_account) = true := by decide +kernel

theorem wL_76 : ∀ w ∈ [Cond.methodLink RL 76 yX8_account, Cond.initialized yX8_account.cls, Cond.code yX8_account cX8_account 2 (some .int), Cond.instanceMethod yX8_account, Cond.selects yX8_account.cls yX8_account yX8_account], w ∈ zts := (zall (zmem 1017 (by decide +kernel) (by decide +kernel)) (zall (zmem 59 (by decide +kernel) (by decide +kernel)) (zall (zmem 1020 (by decide +kernel) (by decide +kernel)) (zall (zmem 1018 (by decide +kernel) (by decide +kernel)) (zall (zmem 1019 (by decide +kernel) (by decide +kernel)) znil)))))
def rL_account : Room := { frames := 8, cells := 1, slots := 6, locals := 127 }
def hL_account : List zHd := [((0, 9, 12, 13), xA)]
theorem wL_account : zhw RL hL_account := zall zhq_xA (znil)
abbrev YL_account : zM := (RL, cL_account, 4, some .int, rL_account, UL, fun _ => none, zcs [(76, 2, 1, 6, zvs UL 8 (sLC sX8_account))] [])
def sL_account : List Value → zF → zO → Prop := fun as F ok => match as with
  | [.ref 495, .int p0, .ref 519] => sLl sX8_account [xA] [.ref 495, .int p0] F ok
  | _ => False
theorem uL_account : zMet UL yX8_account cX8_account 2 (some .int) rX8_account (sLC sX8_account) := zliftC mX8_account
theorem vL_account (ok : zO) : zCalX YL_account (zKl YL_account hL_account) (zQl YL_account ok) (zAl YL_account) (zxk YL_account hL_account ok) true 76 2 1 6 (zvsP UL 8 (sLC sX8_account)) := zcalL (Y := YL_account) (y := yX8_account) (cc := cX8_account) (nL := 2) (ret := some .int) (rm := rX8_account) uL_account 76 1 8 (T := TX8) rfl wL_76 ⟨by decide +kernel, by decide +kernel, by decide +kernel⟩ (by decide) ⟨Nat.le_of_ble_eq_true rfl, Nat.le_of_ble_eq_true rfl⟩
theorem YL_account_ok (ok : zO) : zXok YL_account (zKl YL_account hL_account) (zQl YL_account ok) (zAl YL_account) false (fun _ => 0) 0 (fun x F => ok (some (.int x)) F) (zxk YL_account hL_account ok) := zXok_L (zCalX_one (vl := [(76, 2, 1, 6, zvs UL 8 (sLC sX8_account))]) rfl (zall (zcalX_mono (vL_account ok) (fun _ _ _ _ g => zvs_P g)) znil))
theorem mL_account : zMetL UL yL_account cL_account 4 rL_account hL_account sL_account := by
  refine zmetL (Y := YL_account) rfl (by decide +kernel) ?_
  intro av F ok h
  unfold sL_account at h
  split at h
  · obtain ⟨ok', ex', F0, h0, h1, h2, h3⟩ := h
    refine zgoX_ok (YL_account_ok ok) znoX kL_account (List.all_eq_true.mp kL_account_ok) 0 _ _ _ _ _ ?_
    refine ⟨⟨by decide, by decide⟩, ok', ex', F0, h0, h1, fun q F' g => ?_, fun E F' g => ⟨⟨by decide +kernel, wL_account⟩, (h3 E F' g).1, (h3 E F' g).2⟩⟩
    obtain ⟨v, rfl, g2⟩ := h2 q F' g
    exact ⟨vp01, v, rfl, g2⟩
  · exact h.elim
def kL_undo : List zI := [
  (0, 1, .aload_n 1, [], 0),
  (1, 1, .iconst 0, [], 0),
  (2, 1, .aload_n 0, [], 0),
  (3, 3, .invokevirtual 85, [], 0),
  (6, 1, .i2l, [], 0),
  (7, 1, .lastore, [], 0),
  (8, 3, .goto 6, [14], 0),
  (11, 1, .astore_n 2, [], 0),
  (12, 1, .iconst 1, [], 1),
  (13, 1, .ireturn, [], 0),
  (14, 1, .iconst 0, [], 0),
  (15, 1, .ireturn, [], 0)]
theorem kL_undo_ok : kL_undo.all (zck cL_undo) = true := by decide +kernel

theorem wL_85 : ∀ w ∈ [Cond.methodLink RL 85 yX8_undo, Cond.initialized yX8_undo.cls, Cond.code yX8_undo cX8_undo 1 (some .int), Cond.instanceMethod yX8_undo, Cond.selects yX8_undo.cls yX8_undo yX8_undo], w ∈ zts := (zall (zmem 1062 (by decide +kernel) (by decide +kernel)) (zall (zmem 59 (by decide +kernel) (by decide +kernel)) (zall (zmem 1065 (by decide +kernel) (by decide +kernel)) (zall (zmem 1063 (by decide +kernel) (by decide +kernel)) (zall (zmem 1064 (by decide +kernel) (by decide +kernel)) znil)))))
def rL_undo : Room := { frames := 8, cells := 1, slots := 6, locals := 127 }
def hL_undo : List zHd := [((0, 8, 11, 15), xS)]
theorem wL_undo : zhw RL hL_undo := zall zhq_xS (znil)
abbrev YL_undo : zM := (RL, cL_undo, 3, some .int, rL_undo, UL, fun _ => none, zcs [(85, 1, 1, 6, zvs UL 8 (sLC sX8_undo))] [])
def sL_undo : List Value → zF → zO → Prop := fun as F ok => match as with
  | [.ref 495, .ref 519] => sLl sX8_undo [xS] [.ref 495] F ok
  | _ => False
theorem uL_undo : zMet UL yX8_undo cX8_undo 1 (some .int) rX8_undo (sLC sX8_undo) := zliftC mX8_undo
theorem vL_undo (ok : zO) : zCalX YL_undo (zKl YL_undo hL_undo) (zQl YL_undo ok) (zAl YL_undo) (zxk YL_undo hL_undo ok) true 85 1 1 6 (zvsP UL 8 (sLC sX8_undo)) := zcalL (Y := YL_undo) (y := yX8_undo) (cc := cX8_undo) (nL := 1) (ret := some .int) (rm := rX8_undo) uL_undo 85 0 8 (T := TX8) rfl wL_85 ⟨by decide +kernel, by decide +kernel, by decide +kernel⟩ (by decide) ⟨Nat.le_of_ble_eq_true rfl, Nat.le_of_ble_eq_true rfl⟩
theorem YL_undo_ok (ok : zO) : zXok YL_undo (zKl YL_undo hL_undo) (zQl YL_undo ok) (zAl YL_undo) false (fun _ => 0) 0 (fun x F => ok (some (.int x)) F) (zxk YL_undo hL_undo ok) := zXok_L (zCalX_one (vl := [(85, 1, 1, 6, zvs UL 8 (sLC sX8_undo))]) rfl (zall (zcalX_mono (vL_undo ok) (fun _ _ _ _ g => zvs_P g)) znil))
theorem mL_undo : zMetL UL yL_undo cL_undo 3 rL_undo hL_undo sL_undo := by
  refine zmetL (Y := YL_undo) rfl (by decide +kernel) ?_
  intro av F ok h
  unfold sL_undo at h
  split at h
  · obtain ⟨ok', ex', F0, h0, h1, h2, h3⟩ := h
    refine zgoX_ok (YL_undo_ok ok) znoX kL_undo (List.all_eq_true.mp kL_undo_ok) 0 _ _ _ _ _ ?_
    refine ⟨⟨by decide, by decide⟩, ok', ex', F0, h0, h1, fun q F' g => ?_, fun E F' g => ⟨⟨by decide +kernel, wL_undo⟩, (h3 E F' g).1, (h3 E F' g).2⟩⟩
    obtain ⟨v, rfl, g2⟩ := h2 q F' g
    exact ⟨vp01, v, rfl, g2⟩
  · exact h.elim
def kL_restore : List zI := [
  (0, 1, .aload_n 0, [], 0),
  (1, 3, .invokevirtual 88, [], 0),
  (4, 3, .goto 6, [10], 0),
  (7, 1, .astore_n 1, [], 0),
  (8, 1, .iconst 1, [], 1),
  (9, 1, .ireturn, [], 0),
  (10, 1, .iconst 0, [], 0),
  (11, 1, .ireturn, [], 0)]
theorem kL_restore_ok : kL_restore.all (zck cL_restore) = true := by decide +kernel

theorem wL_88 : ∀ w ∈ [Cond.methodLink RL 88 yX8_restore, Cond.initialized yX8_restore.cls, Cond.code yX8_restore cX8_restore 1 (none), Cond.instanceMethod yX8_restore, Cond.selects yX8_restore.cls yX8_restore yX8_restore], w ∈ zts := (zall (zmem 1073 (by decide +kernel) (by decide +kernel)) (zall (zmem 59 (by decide +kernel) (by decide +kernel)) (zall (zmem 1076 (by decide +kernel) (by decide +kernel)) (zall (zmem 1074 (by decide +kernel) (by decide +kernel)) (zall (zmem 1075 (by decide +kernel) (by decide +kernel)) znil)))))
def rL_restore : Room := { frames := 8, cells := 1, slots := 6, locals := 122 }
def hL_restore : List zHd := [((0, 4, 7, 15), xS)]
theorem wL_restore : zhw RL hL_restore := zall zhq_xS (znil)
abbrev YL_restore : zM := (RL, cL_restore, 2, some .int, rL_restore, UL, fun _ => none, zcs [(88, 1, 1, 6, zvs UL 8 (sLC sX8_restore))] [])
def sL_restore : List Value → zF → zO → Prop := fun as F ok => match as with
  | [.ref 495] => sLv sX8_restore [xS] [.ref 495] F ok
  | _ => False
theorem uL_restore : zMet UL yX8_restore cX8_restore 1 (none) rX8_restore (sLC sX8_restore) := zliftC mX8_restore
theorem vL_restore (ok : zO) : zCalX YL_restore (zKl YL_restore hL_restore) (zQl YL_restore ok) (zAl YL_restore) (zxk YL_restore hL_restore ok) true 88 1 1 6 (zvsP UL 8 (sLC sX8_restore)) := zcalL (Y := YL_restore) (y := yX8_restore) (cc := cX8_restore) (nL := 1) (ret := none) (rm := rX8_restore) uL_restore 88 0 8 (T := TX8) rfl wL_88 ⟨by decide +kernel, by decide +kernel, by decide +kernel⟩ (by decide) ⟨Nat.le_of_ble_eq_true rfl, Nat.le_of_ble_eq_true rfl⟩
theorem YL_restore_ok (ok : zO) : zXok YL_restore (zKl YL_restore hL_restore) (zQl YL_restore ok) (zAl YL_restore) false (fun _ => 0) 0 (fun x F => ok (some (.int x)) F) (zxk YL_restore hL_restore ok) := zXok_L (zCalX_one (vl := [(88, 1, 1, 6, zvs UL 8 (sLC sX8_restore))]) rfl (zall (zcalX_mono (vL_restore ok) (fun _ _ _ _ g => zvs_P g)) znil))
theorem mL_restore : zMetL UL yL_restore cL_restore 2 rL_restore hL_restore sL_restore := by
  refine zmetL (Y := YL_restore) rfl (by decide +kernel) ?_
  intro av F ok h
  unfold sL_restore at h
  split at h
  · obtain ⟨ok', ex', F0, h0, h1, h2, h3⟩ := h
    refine zgoX_ok (YL_restore_ok ok) znoX kL_restore (List.all_eq_true.mp kL_restore_ok) 0 _ _ _ _ _ ?_
    refine ⟨⟨by decide, by decide⟩, ok', ex', F0, h0, h1, fun q F' g => ?_, fun E F' g => ⟨⟨by decide +kernel, wL_restore⟩, (h3 E F' g).1, (h3 E F' g).2⟩⟩
    obtain ⟨rfl, g2⟩ := h2 q F' g
    exact g2
  · exact h.elim
end ZFd
