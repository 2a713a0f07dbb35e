/-! LockMaster.Fleet: size 27, draught 29, rank 31, up 33, waitsAt 35, since 37, leftAt 39, first 41, next 43; 25: count -/
section ZFl
abbrev qSz (F : zF) (i : Int32) : Int32 := zrd 16 (F 27) i
abbrev qDr (F : zF) (i : Int32) : Int32 := zrd 16 (F 29) i
abbrev qRk (F : zF) (i : Int32) : Int32 := zrd 16 (F 31) i
abbrev qUp (F : zF) (i : Int32) : Int32 := zrd 16 (F 33) i
abbrev qWa (F : zF) (i : Int32) : Int32 := zrd 16 (F 35) i
abbrev qSi (F : zF) (i : Int32) : Int32 := zrd 16 (F 37) i
abbrev qLf (F : zF) (i : Int32) : Int32 := zrd 16 (F 39) i
abbrev qFi (F : zF) (i : Int32) : Int32 := zrd 16 (F 41) i
abbrev qNx (F : zF) (i : Int32) : Int32 := zrd 16 (F 43) i
def qMkS (F : zF) (s d r b : Int32) : zF := zup (zwr 16 (zwr 16 (zwr 16 (zwr 16 (zwr 16 (zwr 16 (zwr 16 F 27 (F 25 9) s) 29 (F 25 9) d) 31 (F 25 9) r) 33 (F 25 9) b) 39 (F 25 9) (-1)) 41 (F 25 9) (F 25 9)) 43 (F 25 9) (-1)) 25 9 (F 25 9 + 1)
def qRe (F : zF) (i : Int32) : Int32 := if qWa F i = -1 then -1 else qWa F i + qUp F i
def qCva (F : zF) (l : Int32) : Nat → Int32
  | 0 => 0
  | k + 1 => qCva F l k + (if qFi F (nI k) = nI k ∧ qWa F (nI k) = l then 1 else 0)
def qSir (F : zF) (r : Int32) : Nat → Int32
  | 0 => 0
  | k + 1 => qSir F r k + (if qRe F (nI k) = r then 1 else 0)
def qLenC (F : zF) : Nat → Int32 → Nat
  | 0, _ => 0
  | f + 1, i => if i = -1 then 0 else qLenC F f (qNx F i) + 1
def qNth (F : zF) (x : Int32) : Nat → Nat → Int32 → Int32
  | 0, _, _ => -1
  | f + 1, k, i => if i = -1 then -1 else if nI k = x then i else qNth F x f (k + 1) (qNx F i)
def qGr (F : zF) : Nat → Int32 → Int32 → Int32
  | 0, _, a => a
  | f + 1, i, a => if i = -1 then a else qGr F f (qNx F i) (imax a (qRk F i))
def qNm (h : Int32) : Nat → zF → Int32 → zF
  | 0, F, _ => F
  | f + 1, F, i => if i = -1 then F else qNm h f (zwr 16 F 41 i h) (qNx (zwr 16 F 41 i h) i)
def qAh (F : zF) (s : Int32) : Nat → Nat → Int32
  | 0, _ => -1
  | d + 1, k => if qNx F (nI k) = s then nI k else qAh F s d (k + 1)
def qSOC (F : zF) (s x : Int32) : Int32 := qNth F x 16 0 (qFi F s)
def qSIC (F : zF) (s : Int32) : Int32 := nI (qLenC F 16 (qFi F s))
def qJn (F : zF) (a b : Int32) : zF := qNm a 16 (zwr 16 F 43 (qSOC F a (qSIC F a - 1)) b) b
def qLv (F : zF) (s t : Int32) : zF := zwr 16 (zwr 16 (zwr 16 (zwr 16 F 35 s (-1)) 39 s t) 41 s s) 43 s (-1)
def qTk (F : zF) (s : Int32) : zF := zwr 16 (zwr 16 (if qFi F s = s then qNm (qNx F s) 16 F (qNx F s) else zwr 16 F 43 (qAh F s (F 25 9).toNatClampNeg 0) (qNx F s)) 41 s s) 43 s (-1)
def qCt (F : zF) (a r : Int32) : zF := qNm (qSOC F a r) 16 (zwr 16 F 43 (qSOC F a (r - 1)) (-1)) (qSOC F a r)
def sX3_make : zSp := fun as F ok _ => match as with
  | [.ref 25, .int s, .int d, .int r, .int b] => ok (some (.int (F 25 9))) (qMkS F s d r (if b = 0 then 0 else 1))
  | _ => False
def sX3_has : zSp := fun as F ok _ => match as with
  | [.ref 25, .int i] => zbo (0 ≤ i ∧ i < F 25 9) F ok
  | _ => False
def sX3_hasLeft : zSp := fun as F ok _ => match as with
  | [.ref 25, .int i] => zbo (qWa F i = -1) F ok
  | _ => False
def sX3_goesUp : zSp := fun as F ok _ => match as with
  | [.ref 25, .int i] => zbo (qUp F i = 1) F ok
  | _ => False
def sX3_reachOf : zSp := fun as F ok _ => match as with
  | [.ref 25, .int i] => ok (some (.int (qRe F i))) F
  | _ => False
def sX3_isFirstAt : zSp := fun as F ok _ => match as with
  | [.ref 25, .int i, .int l] => zbo (qFi F i = i ∧ qWa F i = l) F ok
  | _ => False
def sX3_convoysAt : zSp := fun as F ok _ => match as with
  | [.ref 25, .int l] => ok (some (.int (qCva F l (F 25 9).toNatClampNeg))) F
  | _ => False
def sX3_shipsInReach : zSp := fun as F ok _ => match as with
  | [.ref 25, .int r] => ok (some (.int (qSir F r (F 25 9).toNatClampNeg))) F
  | _ => False
def sX3_shipsThatLeft : zSp := fun as F ok _ => match as with
  | [.ref 25] => ok (some (.int (qSir F (-1) (F 25 9).toNatClampNeg))) F
  | _ => False
def sX3_shipsInConvoy : zSp := fun as F ok _ => match as with
  | [.ref 25, .int s] => ok (some (.int (qSIC F s))) F
  | _ => False
def sX3_shipOfConvoy : zSp := fun as F ok _ => match as with
  | [.ref 25, .int s, .int x] => ok (some (.int (qSOC F s x))) F
  | _ => False
def sX3_greatestRank : zSp := fun as F ok _ => match as with
  | [.ref 25, .int s] => ok (some (.int (qGr F 16 s 0))) F
  | _ => False
def sX3_joinBehind : zSp := fun as F ok _ => match as with
  | [.ref 25, .int a, .int b] => ok none (qJn F a b)
  | _ => False
def sX3_takeOut : zSp := fun as F ok _ => match as with
  | [.ref 25, .int s] => ok none (qTk F s)
  | _ => False
def sX3_cutBehind : zSp := fun as F ok _ => match as with
  | [.ref 25, .int a, .int r] => ok none (qCt F a r)
  | _ => False
def sX3_leave : zSp := fun as F ok _ => match as with
  | [.ref 25, .int s, .int t] => ok none (qLv F s t)
  | _ => False
def sX3_shipAheadOf : zSp := fun as F ok _ => match as with
  | [.ref 25, .int s] => ok (some (.int (qAh F s (F 25 9).toNatClampNeg 0))) F
  | _ => False
def sX3_nameFirst : zSp := fun as F ok _ => match as with
  | [.ref 25, .int i, .int h] => ok none (qNm h 16 F i)
  | _ => False

def kX3_make : List zI := [
  (0, 1, .aload_n 0, [], 0),
  (1, 3, .getfield 44, [], 0),
  (4, 2, .istore 5, [], 0),
  (6, 1, .aload_n 0, [], 0),
  (7, 3, .getfield 14, [], 0),
  (10, 2, .iload 5, [], 0),
  (12, 1, .iload_n 1, [], 0),
  (13, 3, .invokevirtual 48, [], 0),
  (16, 1, .aload_n 0, [], 0),
  (17, 3, .getfield 20, [], 0),
  (20, 2, .iload 5, [], 0),
  (22, 1, .iload_n 2, [], 0),
  (23, 3, .invokevirtual 48, [], 0),
  (26, 1, .aload_n 0, [], 0),
  (27, 3, .getfield 23, [], 0),
  (30, 2, .iload 5, [], 0),
  (32, 1, .iload_n 3, [], 0),
  (33, 3, .invokevirtual 48, [], 0),
  (36, 1, .aload_n 0, [], 0),
  (37, 3, .getfield 26, [], 0),
  (40, 2, .iload 5, [], 0),
  (42, 2, .iload 4, [], 0),
  (44, 3, .ifCond .eq 7, [51], 0),
  (47, 1, .iconst 1, [], 1),
  (48, 3, .goto 4, [52], 0),
  (51, 1, .iconst 0, [], 0),
  (52, 3, .invokevirtual 48, [], 0),
  (55, 1, .aload_n 0, [], 0),
  (56, 3, .getfield 35, [], 0),
  (59, 2, .iload 5, [], 0),
  (61, 1, .iconst (-1), [], (-1)),
  (62, 3, .invokevirtual 48, [], 0),
  (65, 1, .aload_n 0, [], 0),
  (66, 3, .getfield 38, [], 0),
  (69, 2, .iload 5, [], 0),
  (71, 2, .iload 5, [], 0),
  (73, 3, .invokevirtual 48, [], 0),
  (76, 1, .aload_n 0, [], 0),
  (77, 3, .getfield 41, [], 0),
  (80, 2, .iload 5, [], 0),
  (82, 1, .iconst (-1), [], (-1)),
  (83, 3, .invokevirtual 48, [], 0),
  (86, 1, .aload_n 0, [], 0),
  (87, 1, .dup, [], 0),
  (88, 3, .getfield 44, [], 0),
  (91, 1, .iconst 1, [], 1),
  (92, 1, .iadd, [], 0),
  (93, 3, .putfield 44, [], 0),
  (96, 2, .iload 5, [], 0),
  (98, 1, .ireturn, [], 0)]
theorem kX3_make_ok : kX3_make.all (zck cX3_make) = true := by decide +kernel

def rX3_make : Room := { frames := 1, cells := 0, slots := 0, locals := 22 }
abbrev YX3_make : zM := (RX3, cX3_make, 6, some .int, rX3_make, UC, zlk fX3, zcs [(48, 3, 0, 0, zvs (UC) 7 (sU_put UC))] [])
theorem YX3_make_ok : zYok (YX3_make) := zYok_of fX3_ok (zall (zcal_mono (zcalV (Y := YX3_make) (y := yX7_put) (cc := cX7_put) (nL := 3) (ret := none) (rm := rX7_put) (mU_put UC UC_small) 48 2 7 (T := TX7) rfl wX3_48 ⟨by decide +kernel, by decide +kernel, by decide +kernel⟩ (by decide) ⟨Nat.le_of_ble_eq_true rfl, Nat.le_of_ble_eq_true rfl⟩) (fun _ _ _ _ h => zvs_P h)) znil) znil

theorem mX3_make : zMet (UC) yX3_make cX3_make 6 (some .int) rX3_make (sX3_make) := by
  refine zmet (Y := YX3_make) rfl (by decide +kernel) ?_
  intro av F ok ex h
  unfold sX3_make at h
  split at h
  · rename_i s d r b
    refine zgo_ok (YX3_make_ok) zno kX3_make (List.all_eq_true.mp kX3_make_ok) 0 _ _ _ _ _ ?_
    refine And.intro (fun h1 => ?_) (fun h1 => ?_)
    · rw [if_pos h1] at h
      refine zleaf ok h rfl ?_
      unfold qMkS
      simp only [zwr_ne _ _ _ _ (show 25 ≠ 27 by decide), zwr_ne _ _ _ _ (show 25 ≠ 29 by decide), zwr_ne _ _ _ _ (show 25 ≠ 31 by decide), zwr_ne _ _ _ _ (show 25 ≠ 33 by decide), zwr_ne _ _ _ _ (show 25 ≠ 39 by decide), zwr_ne _ _ _ _ (show 25 ≠ 41 by decide), zwr_ne _ _ _ _ (show 25 ≠ 43 by decide)]
    · rw [if_neg h1] at h
      refine zleaf ok h rfl ?_
      unfold qMkS
      simp only [zwr_ne _ _ _ _ (show 25 ≠ 27 by decide), zwr_ne _ _ _ _ (show 25 ≠ 29 by decide), zwr_ne _ _ _ _ (show 25 ≠ 31 by decide), zwr_ne _ _ _ _ (show 25 ≠ 33 by decide), zwr_ne _ _ _ _ (show 25 ≠ 39 by decide), zwr_ne _ _ _ _ (show 25 ≠ 41 by decide), zwr_ne _ _ _ _ (show 25 ≠ 43 by decide)]
  · exact h.elim

def kX3_has : List zI := [
  (0, 1, .iload_n 1, [], 0),
  (1, 3, .ifCond .lt 15, [16], 0),
  (4, 1, .iload_n 1, [], 0),
  (5, 1, .aload_n 0, [], 0),
  (6, 3, .getfield 44, [], 0),
  (9, 3, .if_icmp .ge 7, [16], 0),
  (12, 1, .iconst 1, [], 1),
  (13, 3, .goto 4, [17], 0),
  (16, 1, .iconst 0, [], 0),
  (17, 1, .ireturn, [], 0)]
theorem kX3_has_ok : kX3_has.all (zck cX3_has) = true := by decide +kernel

def rX3_has : Room := { frames := 0, cells := 0, slots := 0, locals := 0 }
abbrev YX3_has : zM := (RX3, cX3_has, 2, some .boolean, rX3_has, UC, zlk fX3, zcs [] [])
theorem YX3_has_ok : zYok (YX3_has) := zYok_of fX3_ok znil znil

theorem mX3_has : zMet (UC) yX3_has cX3_has 2 (some .boolean) rX3_has (sX3_has) := by
  refine zmet (Y := YX3_has) rfl (by decide +kernel) ?_
  intro av F ok ex h
  unfold sX3_has at h
  split at h
  · rename_i i
    refine zgo_ok (YX3_has_ok) zno kX3_has (List.all_eq_true.mp kX3_has_ok) 0 _ _ _ _ _ ?_
    refine And.intro (fun h1 => ?_) (fun h1 => ?_)
    · exact Exists.intro (Or.inl rfl) (h.2 fun hc => Int32.not_le.mpr h1 hc.1)
    · refine And.intro (fun h2 => ?_) (fun h2 => ?_)
      · exact Exists.intro (Or.inl rfl) (h.2 fun hc => Int32.not_lt.mpr h2 hc.2)
      · exact Exists.intro (Or.inr rfl) (h.1 ⟨Int32.not_lt.mp h1, Int32.not_le.mp h2⟩)
  · exact h.elim

def kX3_hasLeft : List zI := [
  (0, 1, .aload_n 0, [], 0),
  (1, 3, .getfield 29, [], 0),
  (4, 1, .iload_n 1, [], 0),
  (5, 3, .invokevirtual 52, [], 0),
  (8, 1, .iconst (-1), [], (-1)),
  (9, 3, .if_icmp .ne 7, [16], 0),
  (12, 1, .iconst 1, [], 1),
  (13, 3, .goto 4, [17], 0),
  (16, 1, .iconst 0, [], 0),
  (17, 1, .ireturn, [], 0)]
theorem kX3_hasLeft_ok : kX3_hasLeft.all (zck cX3_hasLeft) = true := by decide +kernel

def rX3_hasLeft : Room := { frames := 1, cells := 0, slots := 0, locals := 21 }
abbrev YX3_hasLeft : zM := (RX3, cX3_hasLeft, 2, some .boolean, rX3_hasLeft, UC, zlk fX3, zcs [(52, 2, 0, 0, zvs (UC) 7 (sU_at UC))] [])
theorem YX3_hasLeft_ok : zYok (YX3_hasLeft) := zYok_of fX3_ok (zall (zcal_mono (zcalV (Y := YX3_hasLeft) (y := yX7_at) (cc := cX7_at) (nL := 2) (ret := some .int) (rm := rX7_at) (mU_at UC UC_small) 52 1 7 (T := TX7) rfl wX3_52 ⟨by decide +kernel, by decide +kernel, by decide +kernel⟩ (by decide) ⟨Nat.le_of_ble_eq_true rfl, Nat.le_of_ble_eq_true rfl⟩) (fun _ _ _ _ h => zvs_P h)) znil) znil

theorem mX3_hasLeft : zMet (UC) yX3_hasLeft cX3_hasLeft 2 (some .boolean) rX3_hasLeft (sX3_hasLeft) := by
  refine zmet (Y := YX3_hasLeft) rfl (by decide +kernel) ?_
  intro av F ok ex h
  unfold sX3_hasLeft at h
  split at h
  · rename_i i
    refine zgo_ok (YX3_hasLeft_ok) zno kX3_hasLeft (List.all_eq_true.mp kX3_hasLeft_ok) 0 _ _ _ _ _ ?_
    refine And.intro (fun h1 => ?_) (fun h1 => ?_)
    · exact Exists.intro (Or.inl rfl) (h.2 h1)
    · exact Exists.intro (Or.inr rfl) (h.1 h1)
  · exact h.elim

def kX3_goesUp : List zI := [
  (0, 1, .aload_n 0, [], 0),
  (1, 3, .getfield 26, [], 0),
  (4, 1, .iload_n 1, [], 0),
  (5, 3, .invokevirtual 52, [], 0),
  (8, 1, .iconst 1, [], 1),
  (9, 3, .if_icmp .ne 7, [16], 0),
  (12, 1, .iconst 1, [], 1),
  (13, 3, .goto 4, [17], 0),
  (16, 1, .iconst 0, [], 0),
  (17, 1, .ireturn, [], 0)]
theorem kX3_goesUp_ok : kX3_goesUp.all (zck cX3_goesUp) = true := by decide +kernel

def rX3_goesUp : Room := { frames := 1, cells := 0, slots := 0, locals := 21 }
abbrev YX3_goesUp : zM := (RX3, cX3_goesUp, 2, some .boolean, rX3_goesUp, UC, zlk fX3, zcs [(52, 2, 0, 0, zvs (UC) 7 (sU_at UC))] [])
theorem YX3_goesUp_ok : zYok (YX3_goesUp) := zYok_of fX3_ok (zall (zcal_mono (zcalV (Y := YX3_goesUp) (y := yX7_at) (cc := cX7_at) (nL := 2) (ret := some .int) (rm := rX7_at) (mU_at UC UC_small) 52 1 7 (T := TX7) rfl wX3_52 ⟨by decide +kernel, by decide +kernel, by decide +kernel⟩ (by decide) ⟨Nat.le_of_ble_eq_true rfl, Nat.le_of_ble_eq_true rfl⟩) (fun _ _ _ _ h => zvs_P h)) znil) znil

theorem mX3_goesUp : zMet (UC) yX3_goesUp cX3_goesUp 2 (some .boolean) rX3_goesUp (sX3_goesUp) := by
  refine zmet (Y := YX3_goesUp) rfl (by decide +kernel) ?_
  intro av F ok ex h
  unfold sX3_goesUp at h
  split at h
  · rename_i i
    refine zgo_ok (YX3_goesUp_ok) zno kX3_goesUp (List.all_eq_true.mp kX3_goesUp_ok) 0 _ _ _ _ _ ?_
    refine And.intro (fun h1 => ?_) (fun h1 => ?_)
    · exact Exists.intro (Or.inl rfl) (h.2 h1)
    · exact Exists.intro (Or.inr rfl) (h.1 h1)
  · exact h.elim

def kX3_reachOf : List zI := [
  (0, 1, .aload_n 0, [], 0),
  (1, 1, .iload_n 1, [], 0),
  (2, 3, .invokevirtual 56, [], 0),
  (5, 3, .ifCond .eq 7, [12], 0),
  (8, 1, .iconst (-1), [], (-1)),
  (9, 3, .goto 20, [29], 0),
  (12, 1, .aload_n 0, [], 0),
  (13, 3, .getfield 29, [], 0),
  (16, 1, .iload_n 1, [], 0),
  (17, 3, .invokevirtual 52, [], 0),
  (20, 1, .aload_n 0, [], 0),
  (21, 3, .getfield 26, [], 0),
  (24, 1, .iload_n 1, [], 0),
  (25, 3, .invokevirtual 52, [], 0),
  (28, 1, .iadd, [], 0),
  (29, 1, .ireturn, [], 0)]
theorem kX3_reachOf_ok : kX3_reachOf.all (zck cX3_reachOf) = true := by decide +kernel

def rX3_reachOf : Room := { frames := 2, cells := 0, slots := 0, locals := 42 }
abbrev YX3_reachOf : zM := (RX3, cX3_reachOf, 2, some .int, rX3_reachOf, UC, zlk fX3, zcs [(56, 2, 0, 0, zvs (UC) 3 (sX3_hasLeft)), (52, 2, 0, 0, zvs (UC) 7 (sU_at UC))] [])
theorem YX3_reachOf_ok : zYok (YX3_reachOf) := zYok_of fX3_ok (zall (zcal_mono (zcalV (Y := YX3_reachOf) (y := yX3_hasLeft) (cc := cX3_hasLeft) (nL := 2) (ret := some .boolean) (rm := rX3_hasLeft) (mX3_hasLeft) 56 1 3 (T := TX3) rfl wX3_56 ⟨by decide +kernel, by decide +kernel, by decide +kernel⟩ (by decide) ⟨Nat.le_of_ble_eq_true rfl, Nat.le_of_ble_eq_true rfl⟩) (fun _ _ _ _ h => zvs_P h)) (zall (zcal_mono (zcalV (Y := YX3_reachOf) (y := yX7_at) (cc := cX7_at) (nL := 2) (ret := some .int) (rm := rX7_at) (mU_at UC UC_small) 52 1 7 (T := TX7) rfl wX3_52 ⟨by decide +kernel, by decide +kernel, by decide +kernel⟩ (by decide) ⟨Nat.le_of_ble_eq_true rfl, Nat.le_of_ble_eq_true rfl⟩) (fun _ _ _ _ h => zvs_P h)) znil)) znil

theorem mX3_reachOf : zMet (UC) yX3_reachOf cX3_reachOf 2 (some .int) rX3_reachOf (sX3_reachOf) := by
  refine zmet (Y := YX3_reachOf) rfl (by decide +kernel) ?_
  intro av F ok ex h
  unfold sX3_reachOf at h
  split at h
  · rename_i i
    refine zgo_ok (YX3_reachOf_ok) zno kX3_reachOf (List.all_eq_true.mp kX3_reachOf_ok) 0 _ _ _ _ _ ?_
    repeat' (first
      | refine And.intro (fun h0 => absurd h0 (by decide)) (fun _ => ?_)
      | refine And.intro (fun _ => ?_) (fun h0 => absurd (by decide) h0)
      | refine And.intro (fun _ => ?_) (fun _ => ?_)
      | refine And.intro (fun _ => ?_) ?_
      | refine Exists.intro ?_ ?_)
    · rename_i h1 _
      exact zleaf ok h (by simp only [qRe, if_pos h1]) rfl
    · rename_i h1 _
      exact zleaf ok h (by simp only [qRe, if_neg h1]) rfl
  · exact h.elim

def kX3_isFirstAt : List zI := [
  (0, 1, .aload_n 0, [], 0),
  (1, 3, .getfield 38, [], 0),
  (4, 1, .iload_n 1, [], 0),
  (5, 3, .invokevirtual 52, [], 0),
  (8, 1, .iload_n 1, [], 0),
  (9, 3, .if_icmp .ne 19, [28], 0),
  (12, 1, .aload_n 0, [], 0),
  (13, 3, .getfield 29, [], 0),
  (16, 1, .iload_n 1, [], 0),
  (17, 3, .invokevirtual 52, [], 0),
  (20, 1, .iload_n 2, [], 0),
  (21, 3, .if_icmp .ne 7, [28], 0),
  (24, 1, .iconst 1, [], 1),
  (25, 3, .goto 4, [29], 0),
  (28, 1, .iconst 0, [], 0),
  (29, 1, .ireturn, [], 0)]
theorem kX3_isFirstAt_ok : kX3_isFirstAt.all (zck cX3_isFirstAt) = true := by decide +kernel

def rX3_isFirstAt : Room := { frames := 1, cells := 0, slots := 0, locals := 21 }
abbrev YX3_isFirstAt : zM := (RX3, cX3_isFirstAt, 3, some .boolean, rX3_isFirstAt, UC, zlk fX3, zcs [(52, 2, 0, 0, zvs (UC) 7 (sU_at UC))] [])
theorem YX3_isFirstAt_ok : zYok (YX3_isFirstAt) := zYok_of fX3_ok (zall (zcal_mono (zcalV (Y := YX3_isFirstAt) (y := yX7_at) (cc := cX7_at) (nL := 2) (ret := some .int) (rm := rX7_at) (mU_at UC UC_small) 52 1 7 (T := TX7) rfl wX3_52 ⟨by decide +kernel, by decide +kernel, by decide +kernel⟩ (by decide) ⟨Nat.le_of_ble_eq_true rfl, Nat.le_of_ble_eq_true rfl⟩) (fun _ _ _ _ h => zvs_P h)) znil) znil

theorem mX3_isFirstAt : zMet (UC) yX3_isFirstAt cX3_isFirstAt 3 (some .boolean) rX3_isFirstAt (sX3_isFirstAt) := by
  refine zmet (Y := YX3_isFirstAt) rfl (by decide +kernel) ?_
  intro av F ok ex h
  unfold sX3_isFirstAt at h
  split at h
  · rename_i i l
    refine zgo_ok (YX3_isFirstAt_ok) zno kX3_isFirstAt (List.all_eq_true.mp kX3_isFirstAt_ok) 0 _ _ _ _ _ ?_
    refine And.intro (fun h1 => ?_) (fun h1 => ?_)
    · exact Exists.intro (Or.inl rfl) (h.2 fun hc => h1 hc.1)
    · refine And.intro (fun h2 => ?_) (fun h2 => ?_)
      · exact Exists.intro (Or.inl rfl) (h.2 fun hc => h2 hc.2)
      · exact Exists.intro (Or.inr rfl) (h.1 ⟨h1, h2⟩)
  · exact h.elim

def kX3_convoysAt : List zI := [
  (0, 1, .iconst 0, [], 0),
  (1, 1, .istore_n 2, [], 0),
  (2, 1, .iconst 0, [], 0),
  (3, 1, .istore_n 3, [], 0),
  (4, 1, .iload_n 3, [], 0),
  (5, 1, .aload_n 0, [], 0),
  (6, 3, .getfield 44, [], 0),
  (9, 3, .if_icmp .ge 26, [35], 0),
  (12, 1, .iload_n 2, [], 0),
  (13, 1, .aload_n 0, [], 0),
  (14, 1, .iload_n 3, [], 0),
  (15, 1, .iload_n 1, [], 0),
  (16, 3, .invokevirtual 60, [], 0),
  (19, 3, .ifCond .eq 7, [26], 0),
  (22, 1, .iconst 1, [], 1),
  (23, 3, .goto 4, [27], 0),
  (26, 1, .iconst 0, [], 0),
  (27, 1, .iadd, [], 0),
  (28, 1, .istore_n 2, [], 0),
  (29, 3, .iinc 3 1, [], 1),
  (32, 3, .goto (-28), [4], 0),
  (35, 1, .iload_n 2, [], 0),
  (36, 1, .ireturn, [], 0)]
theorem kX3_convoysAt_ok : kX3_convoysAt.all (zck cX3_convoysAt) = true := by decide +kernel

def rX3_convoysAt : Room := { frames := 2, cells := 0, slots := 0, locals := 43 }
abbrev YX3_convoysAt : zM := (RX3, cX3_convoysAt, 4, some .int, rX3_convoysAt, UC, zlk fX3, zcs [(60, 3, 0, 0, zvs (UC) 3 (sX3_isFirstAt))] [])
theorem YX3_convoysAt_ok : zYok (YX3_convoysAt) := zYok_of fX3_ok (zall (zcal_mono (zcalV (Y := YX3_convoysAt) (y := yX3_isFirstAt) (cc := cX3_isFirstAt) (nL := 3) (ret := some .boolean) (rm := rX3_isFirstAt) (mX3_isFirstAt) 60 2 3 (T := TX3) rfl wX3_60 ⟨by decide +kernel, by decide +kernel, by decide +kernel⟩ (by decide) ⟨Nat.le_of_ble_eq_true rfl, Nat.le_of_ble_eq_true rfl⟩) (fun _ _ _ _ h => zvs_P h)) znil) znil

theorem lX3_convoysAt (ok : zO) (ex : zX) (F : zF) (l : Int32) (h : ok (some (.int (qCva F l (F 25 9).toNatClampNeg))) F) : ∀ (d k : Nat), k + d = (F 25 9).toNatClampNeg → zWP YX3_convoysAt ok ex 4 [some (.ref 25), some (.int l), some (.int (qCva F l k)), some (.int (nI k))] [] 0 0 F := by
  intro d
  induction d with
  | zero =>
    intro k hk
    have hk : k = (F 25 9).toNatClampNeg := hk
    subst hk
    refine zat_ok YX3_convoysAt_ok zno kX3_convoysAt (List.all_eq_true.mp kX3_convoysAt_ok) 4 _ _ _ _ _ ?_
    exact And.intro (fun _ => h) (fun h1 => absurd (zcnt_ge _) h1)
  | succ d ih =>
    intro k hk
    refine zat_ok YX3_convoysAt_ok (inv := zi1 4 (fun ls st kc ks G => zWP YX3_convoysAt ok ex 4 ls st kc ks G)) (zone fun _ _ _ _ _ h => h) kX3_convoysAt (List.all_eq_true.mp kX3_convoysAt_ok) 4 _ _ _ _ _ ?_
    refine And.intro (fun h1 => absurd h1 (zcnt_lt (c := F 25 9) (k := k) (by omega))) (fun h1 => ?_)
    have ih := ih (k + 1) (by omega)
    have e : qCva F l (k + 1) = qCva F l k + (if qFi F (nI k) = nI k ∧ qWa F (nI k) = l then 1 else 0) := rfl
    rw [e, ← nI_1] at ih
    refine And.intro (fun hc => ?_) (fun hc => ?_)
    · rw [if_pos hc] at ih
      exact And.intro (fun h0 => absurd h0 (by decide)) (fun _ => ih)
    · rw [if_neg hc] at ih
      exact And.intro (fun _ => ih) (fun h0 => absurd rfl h0)

theorem mX3_convoysAt : zMet (UC) yX3_convoysAt cX3_convoysAt 4 (some .int) rX3_convoysAt (sX3_convoysAt) := by
  refine zmet (Y := YX3_convoysAt) rfl (by decide +kernel) ?_
  intro av F ok ex h
  unfold sX3_convoysAt at h
  split at h
  · rename_i l
    refine zgo_ok (YX3_convoysAt_ok) (inv := zi1 4 (fun ls st kc ks G => zWP YX3_convoysAt ok ex 4 ls st kc ks G)) (zone fun _ _ _ _ _ h => h) kX3_convoysAt (List.all_eq_true.mp kX3_convoysAt_ok) 0 _ _ _ _ _ ?_
    exact lX3_convoysAt ok ex F l h _ 0 (Nat.zero_add _)
  · exact h.elim

def kX3_shipsInReach : List zI := [
  (0, 1, .iconst 0, [], 0),
  (1, 1, .istore_n 2, [], 0),
  (2, 1, .iconst 0, [], 0),
  (3, 1, .istore_n 3, [], 0),
  (4, 1, .iload_n 3, [], 0),
  (5, 1, .aload_n 0, [], 0),
  (6, 3, .getfield 44, [], 0),
  (9, 3, .if_icmp .ge 26, [35], 0),
  (12, 1, .iload_n 2, [], 0),
  (13, 1, .aload_n 0, [], 0),
  (14, 1, .iload_n 3, [], 0),
  (15, 3, .invokevirtual 64, [], 0),
  (18, 1, .iload_n 1, [], 0),
  (19, 3, .if_icmp .ne 7, [26], 0),
  (22, 1, .iconst 1, [], 1),
  (23, 3, .goto 4, [27], 0),
  (26, 1, .iconst 0, [], 0),
  (27, 1, .iadd, [], 0),
  (28, 1, .istore_n 2, [], 0),
  (29, 3, .iinc 3 1, [], 1),
  (32, 3, .goto (-28), [4], 0),
  (35, 1, .iload_n 2, [], 0),
  (36, 1, .ireturn, [], 0)]
theorem kX3_shipsInReach_ok : kX3_shipsInReach.all (zck cX3_shipsInReach) = true := by decide +kernel

def rX3_shipsInReach : Room := { frames := 3, cells := 0, slots := 0, locals := 63 }
abbrev YX3_shipsInReach : zM := (RX3, cX3_shipsInReach, 4, some .int, rX3_shipsInReach, UC, zlk fX3, zcs [(64, 2, 0, 0, zvs (UC) 3 (sX3_reachOf))] [])
theorem YX3_shipsInReach_ok : zYok (YX3_shipsInReach) := zYok_of fX3_ok (zall (zcal_mono (zcalV (Y := YX3_shipsInReach) (y := yX3_reachOf) (cc := cX3_reachOf) (nL := 2) (ret := some .int) (rm := rX3_reachOf) (mX3_reachOf) 64 1 3 (T := TX3) rfl wX3_64 ⟨by decide +kernel, by decide +kernel, by decide +kernel⟩ (by decide) ⟨Nat.le_of_ble_eq_true rfl, Nat.le_of_ble_eq_true rfl⟩) (fun _ _ _ _ h => zvs_P h)) znil) znil

theorem lX3_shipsInReach (ok : zO) (ex : zX) (F : zF) (r : Int32) (h : ok (some (.int (qSir F r (F 25 9).toNatClampNeg))) F) : ∀ (d k : Nat), k + d = (F 25 9).toNatClampNeg → zWP YX3_shipsInReach ok ex 4 [some (.ref 25), some (.int r), some (.int (qSir F r k)), some (.int (nI k))] [] 0 0 F := by
  intro d
  induction d with
  | zero =>
    intro k hk
    have hk : k = (F 25 9).toNatClampNeg := hk
    subst hk
    refine zat_ok YX3_shipsInReach_ok zno kX3_shipsInReach (List.all_eq_true.mp kX3_shipsInReach_ok) 4 _ _ _ _ _ ?_
    exact And.intro (fun _ => h) (fun h1 => absurd (zcnt_ge _) h1)
  | succ d ih =>
    intro k hk
    refine zat_ok YX3_shipsInReach_ok (inv := zi1 4 (fun ls st kc ks G => zWP YX3_shipsInReach ok ex 4 ls st kc ks G)) (zone fun _ _ _ _ _ h => h) kX3_shipsInReach (List.all_eq_true.mp kX3_shipsInReach_ok) 4 _ _ _ _ _ ?_
    refine And.intro (fun h1 => absurd h1 (zcnt_lt (c := F 25 9) (k := k) (by omega))) (fun h1 => ?_)
    have ih := ih (k + 1) (by omega)
    have e : qSir F r (k + 1) = qSir F r k + (if qRe F (nI k) = r then 1 else 0) := rfl
    rw [e, ← nI_1] at ih
    refine And.intro (fun hc => ?_) (fun hc => ?_)
    · rw [if_neg hc] at ih
      exact ih
    · rw [if_pos hc] at ih
      exact ih

theorem mX3_shipsInReach : zMet (UC) yX3_shipsInReach cX3_shipsInReach 4 (some .int) rX3_shipsInReach (sX3_shipsInReach) := by
  refine zmet (Y := YX3_shipsInReach) rfl (by decide +kernel) ?_
  intro av F ok ex h
  unfold sX3_shipsInReach at h
  split at h
  · rename_i r
    refine zgo_ok (YX3_shipsInReach_ok) (inv := zi1 4 (fun ls st kc ks G => zWP YX3_shipsInReach ok ex 4 ls st kc ks G)) (zone fun _ _ _ _ _ h => h) kX3_shipsInReach (List.all_eq_true.mp kX3_shipsInReach_ok) 0 _ _ _ _ _ ?_
    exact lX3_shipsInReach ok ex F r h _ 0 (Nat.zero_add _)
  · exact h.elim

def kX3_shipsThatLeft : List zI := [
  (0, 1, .aload_n 0, [], 0),
  (1, 1, .iconst (-1), [], (-1)),
  (2, 3, .invokevirtual 67, [], 0),
  (5, 1, .ireturn, [], 0)]
theorem kX3_shipsThatLeft_ok : kX3_shipsThatLeft.all (zck cX3_shipsThatLeft) = true := by decide +kernel

def rX3_shipsThatLeft : Room := { frames := 4, cells := 0, slots := 0, locals := 86 }
abbrev YX3_shipsThatLeft : zM := (RX3, cX3_shipsThatLeft, 1, some .int, rX3_shipsThatLeft, UC, zlk fX3, zcs [(67, 2, 0, 0, zvs (UC) 3 (sX3_shipsInReach))] [])
theorem YX3_shipsThatLeft_ok : zYok (YX3_shipsThatLeft) := zYok_of fX3_ok (zall (zcal_mono (zcalV (Y := YX3_shipsThatLeft) (y := yX3_shipsInReach) (cc := cX3_shipsInReach) (nL := 4) (ret := some .int) (rm := rX3_shipsInReach) (mX3_shipsInReach) 67 1 3 (T := TX3) rfl wX3_67 ⟨by decide +kernel, by decide +kernel, by decide +kernel⟩ (by decide) ⟨Nat.le_of_ble_eq_true rfl, Nat.le_of_ble_eq_true rfl⟩) (fun _ _ _ _ h => zvs_P h)) znil) znil

theorem mX3_shipsThatLeft : zMet (UC) yX3_shipsThatLeft cX3_shipsThatLeft 1 (some .int) rX3_shipsThatLeft (sX3_shipsThatLeft) := by
  refine zmet (Y := YX3_shipsThatLeft) rfl (by decide +kernel) ?_
  intro av F ok ex h
  unfold sX3_shipsThatLeft at h
  split at h
  · refine zgo_ok (YX3_shipsThatLeft_ok) zno kX3_shipsThatLeft (List.all_eq_true.mp kX3_shipsThatLeft_ok) 0 _ _ _ _ _ ?_
    exact h
  · exact h.elim

theorem z16_lt {k f : Nat} (h : k + f = 16) (hf : 0 < f) : ¬ (16 : Int32) ≤ nI k := by
  have h1 := nI_ge (a := k) (b := 16) (by omega) (by decide)
  exact h1
theorem z16_ge : (16 : Int32) ≤ nI 16 := by decide

def kX3_shipsInConvoy : List zI := [
  (0, 1, .iconst 0, [], 0),
  (1, 1, .istore_n 2, [], 0),
  (2, 1, .aload_n 0, [], 0),
  (3, 3, .getfield 38, [], 0),
  (6, 1, .iload_n 1, [], 0),
  (7, 3, .invokevirtual 52, [], 0),
  (10, 1, .istore_n 3, [], 0),
  (11, 1, .iload_n 3, [], 0),
  (12, 1, .iconst (-1), [], (-1)),
  (13, 3, .if_icmp .eq 24, [37], 0),
  (16, 1, .iload_n 2, [], 0),
  (17, 2, .bipush 16, [], 16),
  (19, 3, .if_icmp .ge 18, [37], 0),
  (22, 3, .iinc 2 1, [], 1),
  (25, 1, .aload_n 0, [], 0),
  (26, 3, .getfield 41, [], 0),
  (29, 1, .iload_n 3, [], 0),
  (30, 3, .invokevirtual 52, [], 0),
  (33, 1, .istore_n 3, [], 0),
  (34, 3, .goto (-23), [11], 0),
  (37, 1, .iload_n 2, [], 0),
  (38, 1, .ireturn, [], 0)]
theorem kX3_shipsInConvoy_ok : kX3_shipsInConvoy.all (zck cX3_shipsInConvoy) = true := by decide +kernel

def rX3_shipsInConvoy : Room := { frames := 1, cells := 0, slots := 0, locals := 21 }
abbrev YX3_shipsInConvoy : zM := (RX3, cX3_shipsInConvoy, 4, some .int, rX3_shipsInConvoy, UC, zlk fX3, zcs [(52, 2, 0, 0, zvs (UC) 7 (sU_at UC))] [])
theorem YX3_shipsInConvoy_ok : zYok (YX3_shipsInConvoy) := zYok_of fX3_ok (zall (zcal_mono (zcalV (Y := YX3_shipsInConvoy) (y := yX7_at) (cc := cX7_at) (nL := 2) (ret := some .int) (rm := rX7_at) (mU_at UC UC_small) 52 1 7 (T := TX7) rfl wX3_52 ⟨by decide +kernel, by decide +kernel, by decide +kernel⟩ (by decide) ⟨Nat.le_of_ble_eq_true rfl, Nat.le_of_ble_eq_true rfl⟩) (fun _ _ _ _ h => zvs_P h)) znil) znil

theorem lX3_shipsInConvoy (ok : zO) (ex : zX) (F : zF) (s : Int32) : ∀ (f k : Nat) (i : Int32), k + f = 16 → ok (some (.int (nI (k + qLenC F f i)))) F → zWP YX3_shipsInConvoy ok ex 11 [some (.ref 25), some (.int s), some (.int (nI k)), some (.int i)] [] 0 0 F := by
  intro f
  induction f with
  | zero =>
    intro k i hk h
    have hk : k = 16 := hk
    subst hk
    refine zat_ok YX3_shipsInConvoy_ok zno kX3_shipsInConvoy (List.all_eq_true.mp kX3_shipsInConvoy_ok) 11 _ _ _ _ _ ?_
    exact And.intro (fun _ => h) (fun _ => And.intro (fun _ => h) (fun h1 => absurd z16_ge h1))
  | succ f ih =>
    intro k i hk h
    refine zat_ok YX3_shipsInConvoy_ok (inv := zi1 11 (fun ls st kc ks G => zWP YX3_shipsInConvoy ok ex 11 ls st kc ks G)) (zone fun _ _ _ _ _ h => h) kX3_shipsInConvoy (List.all_eq_true.mp kX3_shipsInConvoy_ok) 11 _ _ _ _ _ ?_
    refine And.intro (fun h1 => ?_) (fun h1 => And.intro (fun h2 => absurd h2 (z16_lt hk (by omega))) (fun _ => ?_))
    · have e : qLenC F (f + 1) i = 0 := by simp only [qLenC]; exact if_pos h1
      rw [e] at h
      exact h
    · have e : qLenC F (f + 1) i = qLenC F f (qNx F i) + 1 := by simp only [qLenC]; exact if_neg h1
      rw [e, show k + (qLenC F f (qNx F i) + 1) = (k + 1) + qLenC F f (qNx F i) by omega] at h
      have := ih (k + 1) (qNx F i) (by omega) h
      rw [← nI_1] at this
      exact this

theorem mX3_shipsInConvoy : zMet (UC) yX3_shipsInConvoy cX3_shipsInConvoy 4 (some .int) rX3_shipsInConvoy (sX3_shipsInConvoy) := by
  refine zmet (Y := YX3_shipsInConvoy) rfl (by decide +kernel) ?_
  intro av F ok ex h
  unfold sX3_shipsInConvoy at h
  split at h
  · rename_i s
    refine zgo_ok (YX3_shipsInConvoy_ok) (inv := zi1 11 (fun ls st kc ks G => zWP YX3_shipsInConvoy ok ex 11 ls st kc ks G)) (zone fun _ _ _ _ _ h => h) kX3_shipsInConvoy (List.all_eq_true.mp kX3_shipsInConvoy_ok) 0 _ _ _ _ _ ?_
    exact lX3_shipsInConvoy ok ex F s 16 0 (qFi F s) rfl (by rw [Nat.zero_add]; exact h)
  · exact h.elim

def kX3_shipOfConvoy : List zI := [
  (0, 1, .iconst 0, [], 0),
  (1, 1, .istore_n 3, [], 0),
  (2, 1, .aload_n 0, [], 0),
  (3, 3, .getfield 38, [], 0),
  (6, 1, .iload_n 1, [], 0),
  (7, 3, .invokevirtual 52, [], 0),
  (10, 2, .istore 4, [], 0),
  (12, 2, .iload 4, [], 0),
  (14, 1, .iconst (-1), [], (-1)),
  (15, 3, .if_icmp .eq 34, [49], 0),
  (18, 1, .iload_n 3, [], 0),
  (19, 2, .bipush 16, [], 16),
  (21, 3, .if_icmp .ge 28, [49], 0),
  (24, 1, .iload_n 3, [], 0),
  (25, 1, .iload_n 2, [], 0),
  (26, 3, .if_icmp .ne 6, [32], 0),
  (29, 2, .iload 4, [], 0),
  (31, 1, .ireturn, [], 0),
  (32, 3, .iinc 3 1, [], 1),
  (35, 1, .aload_n 0, [], 0),
  (36, 3, .getfield 41, [], 0),
  (39, 2, .iload 4, [], 0),
  (41, 3, .invokevirtual 52, [], 0),
  (44, 2, .istore 4, [], 0),
  (46, 3, .goto (-34), [12], 0),
  (49, 1, .iconst (-1), [], (-1)),
  (50, 1, .ireturn, [], 0)]
theorem kX3_shipOfConvoy_ok : kX3_shipOfConvoy.all (zck cX3_shipOfConvoy) = true := by decide +kernel

def rX3_shipOfConvoy : Room := { frames := 1, cells := 0, slots := 0, locals := 21 }
abbrev YX3_shipOfConvoy : zM := (RX3, cX3_shipOfConvoy, 5, some .int, rX3_shipOfConvoy, UC, zlk fX3, zcs [(52, 2, 0, 0, zvs (UC) 7 (sU_at UC))] [])
theorem YX3_shipOfConvoy_ok : zYok (YX3_shipOfConvoy) := zYok_of fX3_ok (zall (zcal_mono (zcalV (Y := YX3_shipOfConvoy) (y := yX7_at) (cc := cX7_at) (nL := 2) (ret := some .int) (rm := rX7_at) (mU_at UC UC_small) 52 1 7 (T := TX7) rfl wX3_52 ⟨by decide +kernel, by decide +kernel, by decide +kernel⟩ (by decide) ⟨Nat.le_of_ble_eq_true rfl, Nat.le_of_ble_eq_true rfl⟩) (fun _ _ _ _ h => zvs_P h)) znil) znil

theorem lX3_shipOfConvoy (ok : zO) (ex : zX) (F : zF) (s x : Int32) : ∀ (f k : Nat) (i : Int32), k + f = 16 → ok (some (.int (qNth F x f k i))) F → zWP YX3_shipOfConvoy ok ex 12 [some (.ref 25), some (.int s), some (.int x), some (.int (nI k)), some (.int i)] [] 0 0 F := by
  intro f
  induction f with
  | zero =>
    intro k i hk h
    have hk : k = 16 := hk
    subst hk
    refine zat_ok YX3_shipOfConvoy_ok zno kX3_shipOfConvoy (List.all_eq_true.mp kX3_shipOfConvoy_ok) 12 _ _ _ _ _ ?_
    exact And.intro (fun _ => h) (fun _ => And.intro (fun _ => h) (fun h1 => absurd z16_ge h1))
  | succ f ih =>
    intro k i hk h
    refine zat_ok YX3_shipOfConvoy_ok (inv := zi1 12 (fun ls st kc ks G => zWP YX3_shipOfConvoy ok ex 12 ls st kc ks G)) (zone fun _ _ _ _ _ h => h) kX3_shipOfConvoy (List.all_eq_true.mp kX3_shipOfConvoy_ok) 12 _ _ _ _ _ ?_
    refine And.intro (fun h1 => ?_) (fun h1 => And.intro (fun h2 => absurd h2 (z16_lt hk (by omega))) (fun _ => And.intro (fun h3 => ?_) (fun h3 => ?_)))
    · have e : qNth F x (f + 1) k i = -1 := by simp only [qNth]; exact if_pos h1
      rw [e] at h
      exact h
    · have e : qNth F x (f + 1) k i = qNth F x f (k + 1) (qNx F i) := by simp only [qNth]; rw [if_neg h1]; exact if_neg h3
      rw [e] at h
      have := ih (k + 1) (qNx F i) (by omega) h
      rw [← nI_1] at this
      exact this
    · have e : qNth F x (f + 1) k i = i := by simp only [qNth]; rw [if_neg h1]; exact if_pos h3
      rw [e] at h
      exact h

theorem mX3_shipOfConvoy : zMet (UC) yX3_shipOfConvoy cX3_shipOfConvoy 5 (some .int) rX3_shipOfConvoy (sX3_shipOfConvoy) := by
  refine zmet (Y := YX3_shipOfConvoy) rfl (by decide +kernel) ?_
  intro av F ok ex h
  unfold sX3_shipOfConvoy at h
  split at h
  · rename_i s x
    refine zgo_ok (YX3_shipOfConvoy_ok) (inv := zi1 12 (fun ls st kc ks G => zWP YX3_shipOfConvoy ok ex 12 ls st kc ks G)) (zone fun _ _ _ _ _ h => h) kX3_shipOfConvoy (List.all_eq_true.mp kX3_shipOfConvoy_ok) 0 _ _ _ _ _ ?_
    exact lX3_shipOfConvoy ok ex F s x 16 0 (qFi F s) rfl h
  · exact h.elim

def kX3_greatestRank : List zI := [
  (0, 1, .iconst 0, [], 0),
  (1, 1, .istore_n 2, [], 0),
  (2, 1, .iconst 0, [], 0),
  (3, 1, .istore_n 3, [], 0),
  (4, 1, .iload_n 1, [], 0),
  (5, 2, .istore 4, [], 0),
  (7, 2, .iload 4, [], 0),
  (9, 1, .iconst (-1), [], (-1)),
  (10, 3, .if_icmp .eq 40, [50], 0),
  (13, 1, .iload_n 3, [], 0),
  (14, 2, .bipush 16, [], 16),
  (16, 3, .if_icmp .ge 34, [50], 0),
  (19, 1, .iload_n 2, [], 0),
  (20, 1, .aload_n 0, [], 0),
  (21, 3, .getfield 23, [], 0),
  (24, 2, .iload 4, [], 0),
  (26, 3, .invokevirtual 52, [], 0),
  (29, 3, .invokestatic 70, [], 0),
  (32, 1, .istore_n 2, [], 0),
  (33, 3, .iinc 3 1, [], 1),
  (36, 1, .aload_n 0, [], 0),
  (37, 3, .getfield 41, [], 0),
  (40, 2, .iload 4, [], 0),
  (42, 3, .invokevirtual 52, [], 0),
  (45, 2, .istore 4, [], 0),
  (47, 3, .goto (-40), [7], 0),
  (50, 1, .iload_n 2, [], 0),
  (51, 1, .ireturn, [], 0)]
theorem kX3_greatestRank_ok : kX3_greatestRank.all (zck cX3_greatestRank) = true := by decide +kernel

def rX3_greatestRank : Room := { frames := 1, cells := 0, slots := 0, locals := 21 }
abbrev YX3_greatestRank : zM := (RX3, cX3_greatestRank, 5, some .int, rX3_greatestRank, UC, zlk fX3, zcs [(52, 2, 0, 0, zvs (UC) 7 (sU_at UC))] [(70, 2, 0, 0, sJ9_max_7cf53)])
theorem YX3_greatestRank_ok : zYok (YX3_greatestRank) := zYok_of fX3_ok (zall (zcal_mono (zcalV (Y := YX3_greatestRank) (y := yX7_at) (cc := cX7_at) (nL := 2) (ret := some .int) (rm := rX7_at) (mU_at UC UC_small) 52 1 7 (T := TX7) rfl wX3_52 ⟨by decide +kernel, by decide +kernel, by decide +kernel⟩ (by decide) ⟨Nat.le_of_ble_eq_true rfl, Nat.le_of_ble_eq_true rfl⟩) (fun _ _ _ _ h => zvs_P h)) znil) (zall (zcalS (Y := YX3_greatestRank) (y := yJ9_max_7cf53) (cc := cJ9_max_7cf53) (nL := 2) (ret := some .int) (rm := rJ9_max_7cf53) (mJ9_max_7cf53 UC) 70 2 wX3_70 ⟨by decide +kernel, by decide +kernel, by decide +kernel⟩ (by decide) ⟨Nat.le_of_ble_eq_true rfl, Nat.le_of_ble_eq_true rfl⟩) znil)

theorem lX3_greatestRank (ok : zO) (ex : zX) (F : zF) (s : Int32) : ∀ (f k : Nat) (i a : Int32), k + f = 16 → ok (some (.int (qGr F f i a))) F → zWP YX3_greatestRank ok ex 7 [some (.ref 25), some (.int s), some (.int a), some (.int (nI k)), some (.int i)] [] 0 0 F := by
  intro f
  induction f with
  | zero =>
    intro k i a hk h
    have hk : k = 16 := hk
    subst hk
    refine zat_ok YX3_greatestRank_ok zno kX3_greatestRank (List.all_eq_true.mp kX3_greatestRank_ok) 7 _ _ _ _ _ ?_
    exact And.intro (fun _ => h) (fun _ => And.intro (fun _ => h) (fun h1 => absurd z16_ge h1))
  | succ f ih =>
    intro k i a hk h
    refine zat_ok YX3_greatestRank_ok (inv := zi1 7 (fun ls st kc ks G => zWP YX3_greatestRank ok ex 7 ls st kc ks G)) (zone fun _ _ _ _ _ h => h) kX3_greatestRank (List.all_eq_true.mp kX3_greatestRank_ok) 7 _ _ _ _ _ ?_
    refine And.intro (fun h1 => ?_) (fun h1 => And.intro (fun h2 => absurd h2 (z16_lt hk (by omega))) (fun _ => ?_))
    · have e : qGr F (f + 1) i a = a := by simp only [qGr]; exact if_pos h1
      rw [e] at h
      exact h
    · have e : qGr F (f + 1) i a = qGr F f (qNx F i) (imax a (qRk F i)) := by simp only [qGr]; exact if_neg h1
      rw [e] at h
      have := ih (k + 1) (qNx F i) _ (by omega) h
      rw [← nI_1] at this
      exact this

theorem mX3_greatestRank : zMet (UC) yX3_greatestRank cX3_greatestRank 5 (some .int) rX3_greatestRank (sX3_greatestRank) := by
  refine zmet (Y := YX3_greatestRank) rfl (by decide +kernel) ?_
  intro av F ok ex h
  unfold sX3_greatestRank at h
  split at h
  · rename_i s
    refine zgo_ok (YX3_greatestRank_ok) (inv := zi1 7 (fun ls st kc ks G => zWP YX3_greatestRank ok ex 7 ls st kc ks G)) (zone fun _ _ _ _ _ h => h) kX3_greatestRank (List.all_eq_true.mp kX3_greatestRank_ok) 0 _ _ _ _ _ ?_
    exact lX3_greatestRank ok ex F s 16 0 s 0 rfl h
  · exact h.elim

def kX3_nameFirst : List zI := [
  (0, 1, .iconst 0, [], 0),
  (1, 1, .istore_n 3, [], 0),
  (2, 1, .iload_n 1, [], 0),
  (3, 2, .istore 4, [], 0),
  (5, 2, .iload 4, [], 0),
  (7, 1, .iconst (-1), [], (-1)),
  (8, 3, .if_icmp .eq 36, [44], 0),
  (11, 1, .iload_n 3, [], 0),
  (12, 2, .bipush 16, [], 16),
  (14, 3, .if_icmp .ge 30, [44], 0),
  (17, 1, .aload_n 0, [], 0),
  (18, 3, .getfield 38, [], 0),
  (21, 2, .iload 4, [], 0),
  (23, 1, .iload_n 2, [], 0),
  (24, 3, .invokevirtual 48, [], 0),
  (27, 3, .iinc 3 1, [], 1),
  (30, 1, .aload_n 0, [], 0),
  (31, 3, .getfield 41, [], 0),
  (34, 2, .iload 4, [], 0),
  (36, 3, .invokevirtual 52, [], 0),
  (39, 2, .istore 4, [], 0),
  (41, 3, .goto (-36), [5], 0),
  (44, 1, .return_, [], 0)]
theorem kX3_nameFirst_ok : kX3_nameFirst.all (zck cX3_nameFirst) = true := by decide +kernel

def rX3_nameFirst : Room := { frames := 1, cells := 0, slots := 0, locals := 22 }
abbrev YX3_nameFirst : zM := (RX3, cX3_nameFirst, 5, none, rX3_nameFirst, UC, zlk fX3, zcs [(48, 3, 0, 0, zvs (UC) 7 (sU_put UC)), (52, 2, 0, 0, zvs (UC) 7 (sU_at UC))] [])
theorem YX3_nameFirst_ok : zYok (YX3_nameFirst) := zYok_of fX3_ok (zall (zcal_mono (zcalV (Y := YX3_nameFirst) (y := yX7_put) (cc := cX7_put) (nL := 3) (ret := none) (rm := rX7_put) (mU_put UC UC_small) 48 2 7 (T := TX7) rfl wX3_48 ⟨by decide +kernel, by decide +kernel, by decide +kernel⟩ (by decide) ⟨Nat.le_of_ble_eq_true rfl, Nat.le_of_ble_eq_true rfl⟩) (fun _ _ _ _ h => zvs_P h)) (zall (zcal_mono (zcalV (Y := YX3_nameFirst) (y := yX7_at) (cc := cX7_at) (nL := 2) (ret := some .int) (rm := rX7_at) (mU_at UC UC_small) 52 1 7 (T := TX7) rfl wX3_52 ⟨by decide +kernel, by decide +kernel, by decide +kernel⟩ (by decide) ⟨Nat.le_of_ble_eq_true rfl, Nat.le_of_ble_eq_true rfl⟩) (fun _ _ _ _ h => zvs_P h)) znil)) znil

theorem lX3_nameFirst (ok : zO) (ex : zX) (x v : Int32) : ∀ (f k : Nat) (i : Int32) (F : zF), k + f = 16 → ok none (qNm v f F i) → zWP YX3_nameFirst ok ex 5 [some (.ref 25), some (.int x), some (.int v), some (.int (nI k)), some (.int i)] [] 0 0 F := by
  intro f
  induction f with
  | zero =>
    intro k i F hk h
    have hk : k = 16 := hk
    subst hk
    refine zat_ok YX3_nameFirst_ok zno kX3_nameFirst (List.all_eq_true.mp kX3_nameFirst_ok) 5 _ _ _ _ _ ?_
    exact And.intro (fun _ => h) (fun _ => And.intro (fun _ => h) (fun h1 => absurd z16_ge h1))
  | succ f ih =>
    intro k i F hk h
    refine zat_ok YX3_nameFirst_ok (inv := zi1 5 (fun ls st kc ks G => zWP YX3_nameFirst ok ex 5 ls st kc ks G)) (zone fun _ _ _ _ _ h => h) kX3_nameFirst (List.all_eq_true.mp kX3_nameFirst_ok) 5 _ _ _ _ _ ?_
    refine And.intro (fun h1 => ?_) (fun h1 => And.intro (fun h2 => absurd h2 (z16_lt hk (by omega))) (fun _ => ?_))
    · have e : qNm v (f + 1) F i = F := by simp only [qNm]; exact if_pos h1
      rw [e] at h
      exact h
    · have e : qNm v (f + 1) F i = qNm v f (zwr 16 F 41 i v) (qNx (zwr 16 F 41 i v) i) := by simp only [qNm]; exact if_neg h1
      rw [e] at h
      have := ih (k + 1) _ _ (by omega) h
      rw [← nI_1] at this
      exact this

theorem mX3_nameFirst : zMet (UC) yX3_nameFirst cX3_nameFirst 5 (none) rX3_nameFirst (sX3_nameFirst) := by
  refine zmet (Y := YX3_nameFirst) rfl (by decide +kernel) ?_
  intro av F ok ex h
  unfold sX3_nameFirst at h
  split at h
  · rename_i i v
    refine zgo_ok (YX3_nameFirst_ok) (inv := zi1 5 (fun ls st kc ks G => zWP YX3_nameFirst ok ex 5 ls st kc ks G)) (zone fun _ _ _ _ _ h => h) kX3_nameFirst (List.all_eq_true.mp kX3_nameFirst_ok) 0 _ _ _ _ _ ?_
    exact lX3_nameFirst ok ex i v 16 0 i F rfl h
  · exact h.elim

def kX3_shipAheadOf : List zI := [
  (0, 1, .iconst 0, [], 0),
  (1, 1, .istore_n 2, [], 0),
  (2, 1, .iload_n 2, [], 0),
  (3, 1, .aload_n 0, [], 0),
  (4, 3, .getfield 44, [], 0),
  (7, 3, .if_icmp .ge 23, [30], 0),
  (10, 1, .aload_n 0, [], 0),
  (11, 3, .getfield 41, [], 0),
  (14, 1, .iload_n 2, [], 0),
  (15, 3, .invokevirtual 52, [], 0),
  (18, 1, .iload_n 1, [], 0),
  (19, 3, .if_icmp .ne 5, [24], 0),
  (22, 1, .iload_n 2, [], 0),
  (23, 1, .ireturn, [], 0),
  (24, 3, .iinc 2 1, [], 1),
  (27, 3, .goto (-25), [2], 0),
  (30, 1, .iconst (-1), [], (-1)),
  (31, 1, .ireturn, [], 0)]
theorem kX3_shipAheadOf_ok : kX3_shipAheadOf.all (zck cX3_shipAheadOf) = true := by decide +kernel

def rX3_shipAheadOf : Room := { frames := 1, cells := 0, slots := 0, locals := 21 }
abbrev YX3_shipAheadOf : zM := (RX3, cX3_shipAheadOf, 3, some .int, rX3_shipAheadOf, UC, zlk fX3, zcs [(52, 2, 0, 0, zvs (UC) 7 (sU_at UC))] [])
theorem YX3_shipAheadOf_ok : zYok (YX3_shipAheadOf) := zYok_of fX3_ok (zall (zcal_mono (zcalV (Y := YX3_shipAheadOf) (y := yX7_at) (cc := cX7_at) (nL := 2) (ret := some .int) (rm := rX7_at) (mU_at UC UC_small) 52 1 7 (T := TX7) rfl wX3_52 ⟨by decide +kernel, by decide +kernel, by decide +kernel⟩ (by decide) ⟨Nat.le_of_ble_eq_true rfl, Nat.le_of_ble_eq_true rfl⟩) (fun _ _ _ _ h => zvs_P h)) znil) znil

theorem lX3_shipAheadOf (ok : zO) (ex : zX) (F : zF) (s : Int32) : ∀ (d k : Nat), k + d = (F 25 9).toNatClampNeg → ok (some (.int (qAh F s d k))) F → zWP YX3_shipAheadOf ok ex 2 [some (.ref 25), some (.int s), some (.int (nI k))] [] 0 0 F := by
  intro d
  induction d with
  | zero =>
    intro k hk h
    have hk : k = (F 25 9).toNatClampNeg := hk
    subst hk
    refine zat_ok YX3_shipAheadOf_ok zno kX3_shipAheadOf (List.all_eq_true.mp kX3_shipAheadOf_ok) 2 _ _ _ _ _ ?_
    exact And.intro (fun _ => h) (fun h1 => absurd (zcnt_ge _) h1)
  | succ d ih =>
    intro k hk h
    refine zat_ok YX3_shipAheadOf_ok (inv := zi1 2 (fun ls st kc ks G => zWP YX3_shipAheadOf ok ex 2 ls st kc ks G)) (zone fun _ _ _ _ _ h => h) kX3_shipAheadOf (List.all_eq_true.mp kX3_shipAheadOf_ok) 2 _ _ _ _ _ ?_
    refine And.intro (fun h1 => absurd h1 (zcnt_lt (c := F 25 9) (k := k) (by omega))) (fun h1 => And.intro (fun h2 => ?_) (fun h2 => ?_))
    · have e : qAh F s (d + 1) k = qAh F s d (k + 1) := by simp only [qAh]; exact if_neg h2
      rw [e] at h
      have := ih (k + 1) (by omega) h
      rw [← nI_1] at this
      exact this
    · have e : qAh F s (d + 1) k = nI k := by simp only [qAh]; exact if_pos h2
      rw [e] at h
      exact h

theorem mX3_shipAheadOf : zMet (UC) yX3_shipAheadOf cX3_shipAheadOf 3 (some .int) rX3_shipAheadOf (sX3_shipAheadOf) := by
  refine zmet (Y := YX3_shipAheadOf) rfl (by decide +kernel) ?_
  intro av F ok ex h
  unfold sX3_shipAheadOf at h
  split at h
  · rename_i s
    refine zgo_ok (YX3_shipAheadOf_ok) (inv := zi1 2 (fun ls st kc ks G => zWP YX3_shipAheadOf ok ex 2 ls st kc ks G)) (zone fun _ _ _ _ _ h => h) kX3_shipAheadOf (List.all_eq_true.mp kX3_shipAheadOf_ok) 0 _ _ _ _ _ ?_
    exact lX3_shipAheadOf ok ex F s _ 0 (Nat.zero_add _) h
  · exact h.elim

def kX3_joinBehind : List zI := [
  (0, 1, .aload_n 0, [], 0),
  (1, 3, .getfield 41, [], 0),
  (4, 1, .aload_n 0, [], 0),
  (5, 1, .iload_n 1, [], 0),
  (6, 1, .aload_n 0, [], 0),
  (7, 1, .iload_n 1, [], 0),
  (8, 3, .invokevirtual 76, [], 0),
  (11, 1, .iconst 1, [], 1),
  (12, 1, .isub, [], 0),
  (13, 3, .invokevirtual 79, [], 0),
  (16, 1, .iload_n 2, [], 0),
  (17, 3, .invokevirtual 48, [], 0),
  (20, 1, .aload_n 0, [], 0),
  (21, 1, .iload_n 2, [], 0),
  (22, 1, .iload_n 1, [], 0),
  (23, 3, .invokevirtual 82, [], 0),
  (26, 1, .return_, [], 0)]
theorem kX3_joinBehind_ok : kX3_joinBehind.all (zck cX3_joinBehind) = true := by decide +kernel

def rX3_joinBehind : Room := { frames := 2, cells := 0, slots := 0, locals := 46 }
abbrev YX3_joinBehind : zM := (RX3, cX3_joinBehind, 3, none, rX3_joinBehind, UC, zlk fX3, zcs [(76, 2, 0, 0, zvs (UC) 3 (sX3_shipsInConvoy)), (79, 3, 0, 0, zvs (UC) 3 (sX3_shipOfConvoy)), (48, 3, 0, 0, zvs (UC) 7 (sU_put UC)), (82, 3, 0, 0, zvs (UC) 3 (sX3_nameFirst))] [])
theorem YX3_joinBehind_ok : zYok (YX3_joinBehind) := zYok_of fX3_ok (zall (zcal_mono (zcalV (Y := YX3_joinBehind) (y := yX3_shipsInConvoy) (cc := cX3_shipsInConvoy) (nL := 4) (ret := some .int) (rm := rX3_shipsInConvoy) (mX3_shipsInConvoy) 76 1 3 (T := TX3) rfl wX3_76 ⟨by decide +kernel, by decide +kernel, by decide +kernel⟩ (by decide) ⟨Nat.le_of_ble_eq_true rfl, Nat.le_of_ble_eq_true rfl⟩) (fun _ _ _ _ h => zvs_P h)) (zall (zcal_mono (zcalV (Y := YX3_joinBehind) (y := yX3_shipOfConvoy) (cc := cX3_shipOfConvoy) (nL := 5) (ret := some .int) (rm := rX3_shipOfConvoy) (mX3_shipOfConvoy) 79 2 3 (T := TX3) rfl wX3_79 ⟨by decide +kernel, by decide +kernel, by decide +kernel⟩ (by decide) ⟨Nat.le_of_ble_eq_true rfl, Nat.le_of_ble_eq_true rfl⟩) (fun _ _ _ _ h => zvs_P h)) (zall (zcal_mono (zcalV (Y := YX3_joinBehind) (y := yX7_put) (cc := cX7_put) (nL := 3) (ret := none) (rm := rX7_put) (mU_put UC UC_small) 48 2 7 (T := TX7) rfl wX3_48 ⟨by decide +kernel, by decide +kernel, by decide +kernel⟩ (by decide) ⟨Nat.le_of_ble_eq_true rfl, Nat.le_of_ble_eq_true rfl⟩) (fun _ _ _ _ h => zvs_P h)) (zall (zcal_mono (zcalV (Y := YX3_joinBehind) (y := yX3_nameFirst) (cc := cX3_nameFirst) (nL := 5) (ret := none) (rm := rX3_nameFirst) (mX3_nameFirst) 82 2 3 (T := TX3) rfl wX3_82 ⟨by decide +kernel, by decide +kernel, by decide +kernel⟩ (by decide) ⟨Nat.le_of_ble_eq_true rfl, Nat.le_of_ble_eq_true rfl⟩) (fun _ _ _ _ h => zvs_P h)) znil)))) znil

theorem mX3_joinBehind : zMet (UC) yX3_joinBehind cX3_joinBehind 3 (none) rX3_joinBehind (sX3_joinBehind) := by
  refine zmet (Y := YX3_joinBehind) rfl (by decide +kernel) ?_
  intro av F ok ex h
  unfold sX3_joinBehind at h
  split at h
  · rename_i a b
    refine zgo_ok (YX3_joinBehind_ok) zno kX3_joinBehind (List.all_eq_true.mp kX3_joinBehind_ok) 0 _ _ _ _ _ ?_
    exact h
  · exact h.elim

def kX3_cutBehind : List zI := [
  (0, 1, .aload_n 0, [], 0),
  (1, 1, .iload_n 1, [], 0),
  (2, 1, .iload_n 2, [], 0),
  (3, 3, .invokevirtual 79, [], 0),
  (6, 1, .istore_n 3, [], 0),
  (7, 1, .aload_n 0, [], 0),
  (8, 3, .getfield 41, [], 0),
  (11, 1, .aload_n 0, [], 0),
  (12, 1, .iload_n 1, [], 0),
  (13, 1, .iload_n 2, [], 0),
  (14, 1, .iconst 1, [], 1),
  (15, 1, .isub, [], 0),
  (16, 3, .invokevirtual 79, [], 0),
  (19, 1, .iconst (-1), [], (-1)),
  (20, 3, .invokevirtual 48, [], 0),
  (23, 1, .aload_n 0, [], 0),
  (24, 1, .iload_n 3, [], 0),
  (25, 1, .iload_n 3, [], 0),
  (26, 3, .invokevirtual 82, [], 0),
  (29, 1, .return_, [], 0)]
theorem kX3_cutBehind_ok : kX3_cutBehind.all (zck cX3_cutBehind) = true := by decide +kernel

def rX3_cutBehind : Room := { frames := 2, cells := 0, slots := 0, locals := 46 }
abbrev YX3_cutBehind : zM := (RX3, cX3_cutBehind, 4, none, rX3_cutBehind, UC, zlk fX3, zcs [(79, 3, 0, 0, zvs (UC) 3 (sX3_shipOfConvoy)), (48, 3, 0, 0, zvs (UC) 7 (sU_put UC)), (82, 3, 0, 0, zvs (UC) 3 (sX3_nameFirst))] [])
theorem YX3_cutBehind_ok : zYok (YX3_cutBehind) := zYok_of fX3_ok (zall (zcal_mono (zcalV (Y := YX3_cutBehind) (y := yX3_shipOfConvoy) (cc := cX3_shipOfConvoy) (nL := 5) (ret := some .int) (rm := rX3_shipOfConvoy) (mX3_shipOfConvoy) 79 2 3 (T := TX3) rfl wX3_79 ⟨by decide +kernel, by decide +kernel, by decide +kernel⟩ (by decide) ⟨Nat.le_of_ble_eq_true rfl, Nat.le_of_ble_eq_true rfl⟩) (fun _ _ _ _ h => zvs_P h)) (zall (zcal_mono (zcalV (Y := YX3_cutBehind) (y := yX7_put) (cc := cX7_put) (nL := 3) (ret := none) (rm := rX7_put) (mU_put UC UC_small) 48 2 7 (T := TX7) rfl wX3_48 ⟨by decide +kernel, by decide +kernel, by decide +kernel⟩ (by decide) ⟨Nat.le_of_ble_eq_true rfl, Nat.le_of_ble_eq_true rfl⟩) (fun _ _ _ _ h => zvs_P h)) (zall (zcal_mono (zcalV (Y := YX3_cutBehind) (y := yX3_nameFirst) (cc := cX3_nameFirst) (nL := 5) (ret := none) (rm := rX3_nameFirst) (mX3_nameFirst) 82 2 3 (T := TX3) rfl wX3_82 ⟨by decide +kernel, by decide +kernel, by decide +kernel⟩ (by decide) ⟨Nat.le_of_ble_eq_true rfl, Nat.le_of_ble_eq_true rfl⟩) (fun _ _ _ _ h => zvs_P h)) znil))) znil

theorem mX3_cutBehind : zMet (UC) yX3_cutBehind cX3_cutBehind 4 (none) rX3_cutBehind (sX3_cutBehind) := by
  refine zmet (Y := YX3_cutBehind) rfl (by decide +kernel) ?_
  intro av F ok ex h
  unfold sX3_cutBehind at h
  split at h
  · rename_i a r
    refine zgo_ok (YX3_cutBehind_ok) zno kX3_cutBehind (List.all_eq_true.mp kX3_cutBehind_ok) 0 _ _ _ _ _ ?_
    exact h
  · exact h.elim

def kX3_leave : List zI := [
  (0, 1, .aload_n 0, [], 0),
  (1, 3, .getfield 29, [], 0),
  (4, 1, .iload_n 1, [], 0),
  (5, 1, .iconst (-1), [], (-1)),
  (6, 3, .invokevirtual 48, [], 0),
  (9, 1, .aload_n 0, [], 0),
  (10, 3, .getfield 35, [], 0),
  (13, 1, .iload_n 1, [], 0),
  (14, 1, .iload_n 2, [], 0),
  (15, 3, .invokevirtual 48, [], 0),
  (18, 1, .aload_n 0, [], 0),
  (19, 3, .getfield 38, [], 0),
  (22, 1, .iload_n 1, [], 0),
  (23, 1, .iload_n 1, [], 0),
  (24, 3, .invokevirtual 48, [], 0),
  (27, 1, .aload_n 0, [], 0),
  (28, 3, .getfield 41, [], 0),
  (31, 1, .iload_n 1, [], 0),
  (32, 1, .iconst (-1), [], (-1)),
  (33, 3, .invokevirtual 48, [], 0),
  (36, 1, .return_, [], 0)]
theorem kX3_leave_ok : kX3_leave.all (zck cX3_leave) = true := by decide +kernel

def rX3_leave : Room := { frames := 1, cells := 0, slots := 0, locals := 22 }
abbrev YX3_leave : zM := (RX3, cX3_leave, 3, none, rX3_leave, UC, zlk fX3, zcs [(48, 3, 0, 0, zvs (UC) 7 (sU_put UC))] [])
theorem YX3_leave_ok : zYok (YX3_leave) := zYok_of fX3_ok (zall (zcal_mono (zcalV (Y := YX3_leave) (y := yX7_put) (cc := cX7_put) (nL := 3) (ret := none) (rm := rX7_put) (mU_put UC UC_small) 48 2 7 (T := TX7) rfl wX3_48 ⟨by decide +kernel, by decide +kernel, by decide +kernel⟩ (by decide) ⟨Nat.le_of_ble_eq_true rfl, Nat.le_of_ble_eq_true rfl⟩) (fun _ _ _ _ h => zvs_P h)) znil) znil

theorem mX3_leave : zMet (UC) yX3_leave cX3_leave 3 (none) rX3_leave (sX3_leave) := by
  refine zmet (Y := YX3_leave) rfl (by decide +kernel) ?_
  intro av F ok ex h
  unfold sX3_leave at h
  split at h
  · rename_i s t
    refine zgo_ok (YX3_leave_ok) zno kX3_leave (List.all_eq_true.mp kX3_leave_ok) 0 _ _ _ _ _ ?_
    exact h
  · exact h.elim

def kX3_takeOut : List zI := [
  (0, 1, .aload_n 0, [], 0),
  (1, 3, .getfield 38, [], 0),
  (4, 1, .iload_n 1, [], 0),
  (5, 3, .invokevirtual 52, [], 0),
  (8, 1, .istore_n 2, [], 0),
  (9, 1, .aload_n 0, [], 0),
  (10, 3, .getfield 41, [], 0),
  (13, 1, .iload_n 1, [], 0),
  (14, 3, .invokevirtual 52, [], 0),
  (17, 1, .istore_n 3, [], 0),
  (18, 1, .iload_n 2, [], 0),
  (19, 1, .iload_n 1, [], 0),
  (20, 3, .if_icmp .ne 12, [32], 0),
  (23, 1, .aload_n 0, [], 0),
  (24, 1, .iload_n 3, [], 0),
  (25, 1, .iload_n 3, [], 0),
  (26, 3, .invokevirtual 82, [], 0),
  (29, 3, .goto 16, [45], 0),
  (32, 1, .aload_n 0, [], 0),
  (33, 3, .getfield 41, [], 0),
  (36, 1, .aload_n 0, [], 0),
  (37, 1, .iload_n 1, [], 0),
  (38, 3, .invokevirtual 85, [], 0),
  (41, 1, .iload_n 3, [], 0),
  (42, 3, .invokevirtual 48, [], 0),
  (45, 1, .aload_n 0, [], 0),
  (46, 3, .getfield 38, [], 0),
  (49, 1, .iload_n 1, [], 0),
  (50, 1, .iload_n 1, [], 0),
  (51, 3, .invokevirtual 48, [], 0),
  (54, 1, .aload_n 0, [], 0),
  (55, 3, .getfield 41, [], 0),
  (58, 1, .iload_n 1, [], 0),
  (59, 1, .iconst (-1), [], (-1)),
  (60, 3, .invokevirtual 48, [], 0),
  (63, 1, .return_, [], 0)]
theorem kX3_takeOut_ok : kX3_takeOut.all (zck cX3_takeOut) = true := by decide +kernel

def rX3_takeOut : Room := { frames := 2, cells := 0, slots := 0, locals := 46 }
abbrev YX3_takeOut : zM := (RX3, cX3_takeOut, 4, none, rX3_takeOut, UC, zlk fX3, zcs [(52, 2, 0, 0, zvs (UC) 7 (sU_at UC)), (82, 3, 0, 0, zvs (UC) 3 (sX3_nameFirst)), (85, 2, 0, 0, zvs (UC) 3 (sX3_shipAheadOf)), (48, 3, 0, 0, zvs (UC) 7 (sU_put UC))] [])
theorem YX3_takeOut_ok : zYok (YX3_takeOut) := zYok_of fX3_ok (zall (zcal_mono (zcalV (Y := YX3_takeOut) (y := yX7_at) (cc := cX7_at) (nL := 2) (ret := some .int) (rm := rX7_at) (mU_at UC UC_small) 52 1 7 (T := TX7) rfl wX3_52 ⟨by decide +kernel, by decide +kernel, by decide +kernel⟩ (by decide) ⟨Nat.le_of_ble_eq_true rfl, Nat.le_of_ble_eq_true rfl⟩) (fun _ _ _ _ h => zvs_P h)) (zall (zcal_mono (zcalV (Y := YX3_takeOut) (y := yX3_nameFirst) (cc := cX3_nameFirst) (nL := 5) (ret := none) (rm := rX3_nameFirst) (mX3_nameFirst) 82 2 3 (T := TX3) rfl wX3_82 ⟨by decide +kernel, by decide +kernel, by decide +kernel⟩ (by decide) ⟨Nat.le_of_ble_eq_true rfl, Nat.le_of_ble_eq_true rfl⟩) (fun _ _ _ _ h => zvs_P h)) (zall (zcal_mono (zcalV (Y := YX3_takeOut) (y := yX3_shipAheadOf) (cc := cX3_shipAheadOf) (nL := 3) (ret := some .int) (rm := rX3_shipAheadOf) (mX3_shipAheadOf) 85 1 3 (T := TX3) rfl wX3_85 ⟨by decide +kernel, by decide +kernel, by decide +kernel⟩ (by decide) ⟨Nat.le_of_ble_eq_true rfl, Nat.le_of_ble_eq_true rfl⟩) (fun _ _ _ _ h => zvs_P h)) (zall (zcal_mono (zcalV (Y := YX3_takeOut) (y := yX7_put) (cc := cX7_put) (nL := 3) (ret := none) (rm := rX7_put) (mU_put UC UC_small) 48 2 7 (T := TX7) rfl wX3_48 ⟨by decide +kernel, by decide +kernel, by decide +kernel⟩ (by decide) ⟨Nat.le_of_ble_eq_true rfl, Nat.le_of_ble_eq_true rfl⟩) (fun _ _ _ _ h => zvs_P h)) znil)))) znil

theorem mX3_takeOut : zMet (UC) yX3_takeOut cX3_takeOut 4 (none) rX3_takeOut (sX3_takeOut) := by
  refine zmet (Y := YX3_takeOut) rfl (by decide +kernel) ?_
  intro av F ok ex h
  unfold sX3_takeOut at h
  split at h
  · rename_i s
    refine zgo_ok (YX3_takeOut_ok) zno kX3_takeOut (List.all_eq_true.mp kX3_takeOut_ok) 0 _ _ _ _ _ ?_
    unfold qTk at h
    refine And.intro (fun h1 => ?_) (fun h1 => ?_)
    · rw [if_neg h1] at h
      exact h
    · rw [if_pos h1] at h
      exact h
  · exact h.elim

end ZFl
