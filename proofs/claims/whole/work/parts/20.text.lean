/-! LockMaster.ArrivalText: rows at 1 (characters), 3 (sizes), 5 (draughts), 7 (ranks), 9 (ups); 0: length 5, arrivals 6 -/
section ZTx
def lT : List zS := [(0, 0, [some 1, some 3, some 5, some 7, some 9, none, none]), (0, 7, [some 2]), (1, 50, []), (0, 7, [some 4]), (1, 10, []), (0, 7, [some 6]), (1, 10, []), (0, 7, [some 8]), (1, 10, []), (0, 7, [some 10]), (1, 10, [])]
def UT : zU := (11, fun k => (znth lT k).getD (1, 0, []))
theorem UT_small : zsmall UT := by
  have h : ∀ k, k < 11 → (UT.2 k).2.1 < 2 ^ 31 := by decide +kernel
  exact h
def xPut (F : zF) (c : Int32) : zF := zup (zwr 50 F 2 (F 0 5) c) 0 5 (F 0 5 + 1)
def xBeg (F : zF) (b : Int32) : zF := zup (zwr 10 (zwr 10 (zwr 10 (zwr 10 F 4 (F 0 6) 0) 6 (F 0 6) 0) 8 (F 0 6) 0) 10 (F 0 6) b) 0 6 (F 0 6 + 1)
def xTk (F : zF) (j : Nat) (d : Int32) : zF := zwr 10 F j (F 0 6 - 1) (zrd 10 (F j) (F 0 6 - 1) * 10 + d)
def xSD (c : Int32) : Int32 := if c = 114 then 7 else if c = 44 then 1 else 0
def xDig (c : Int32) : Int32 := if c < 48 then -1 else if 57 < c then -1 else c - 48
def xSt (F : zF) (s c : Int32) : Int32 × zF :=
  if s = 1 then (if c = 100 ∨ c = 117 then (2, xBeg F (if c = 117 then 1 else 0)) else (0, F))
  else if s = 2 then (if 1 ≤ xDig c then (3, xTk F 4 (xDig c)) else (0, F))
  else if s = 3 then (if c = 116 then (4, F) else (0, F))
  else if s = 4 then (if 1 ≤ xDig c then (5, xTk F 6 (xDig c)) else (0, F))
  else if s = 5 then (if 0 ≤ xDig c then (6, xTk F 6 (xDig c)) else (xSD c, F))
  else if s = 6 then (xSD c, F)
  else if s = 7 then (if 0 ≤ xDig c ∧ xDig c ≤ 3 then (8, xTk F 8 (xDig c)) else (0, F))
  else if c = 44 then (1, F) else (0, F)
/-- the rest of the text from k on: the fault's place or -1, and the arrivals -/
def xRd : Nat → Nat → zF → Int32 → Int32 × zF
  | 0, _, F, s => (if s = 5 ∨ s = 6 ∨ s = 8 then -1 else F 0 5, F)
  | d + 1, k, F, s => if (xSt F s (zrd 50 (F 2) (nI k))).1 = 0 then (nI k, (xSt F s (zrd 50 (F 2) (nI k))).2) else xRd d (k + 1) (xSt F s (zrd 50 (F 2) (nI k))).2 (xSt F s (zrd 50 (F 2) (nI k))).1
def xRead (F : zF) : Int32 × zF := xRd (F 0 5).toNatClampNeg 0 (zup F 0 6 0) 1
def sX0_put : zSp := fun as F ok _ => match as with
  | [.ref 0, .int c] => ok none (xPut F c)
  | _ => False
def sX0_begin : zSp := fun as F ok _ => match as with
  | [.ref 0, .int b] => ok (some (.int 2)) (xBeg F (if b = 0 then 0 else 1))
  | _ => False
def sX0_take : zSp := fun as F ok _ => match as with
  | [.ref 0, .ref j, .int d, .int s] => match zrow UT j with
    | some n => ok (some (.int s)) (zwr n F (j + 1) (F 0 6 - 1) (zrd n (F (j + 1)) (F 0 6 - 1) * 10 + d))
    | none => False
  | _ => False
def sX0_stateBehindDraught : zSp := fun as F ok _ => match as with
  | [.ref 0, .int c] => ok (some (.int (xSD c))) F
  | _ => False
def sX0_stateBehind : zSp := fun as F ok _ => match as with
  | [.ref 0, .int s, .int c] => ok (some (.int (xSt F s c).1)) (xSt F s c).2
  | _ => False
def sX0_read : zSp := fun as F ok _ => match as with
  | [.ref 0] => ok (some (.int (xRead F).1)) (xRead F).2
  | _ => False
theorem xSt_5 (F : zF) (s c : Int32) : (xSt F s c).2 0 5 = F 0 5 := by
  unfold xSt
  have h1 : ∀ b, xBeg F b 0 5 = F 0 5 := fun b => by
    unfold xBeg
    rw [zup_an _ _ _ (by decide), zwr_ne _ _ _ _ (by decide), zwr_ne _ _ _ _ (by decide), zwr_ne _ _ _ _ (by decide), zwr_ne _ _ _ _ (by decide)]
  have h2 : ∀ j d, 0 ≠ j → xTk F j d 0 5 = F 0 5 := fun j d h => by
    unfold xTk
    rw [zwr_ne _ _ _ _ h]
  repeat' (first | rfl | exact h1 _ | exact h2 _ _ (by decide) | split)

def kX0_put : List zI := [
  (0, 1, .aload_n 0, [], 0),
  (1, 3, .getfield 14, [], 0),
  (4, 1, .aload_n 0, [], 0),
  (5, 3, .getfield 32, [], 0),
  (8, 1, .iload_n 1, [], 0),
  (9, 3, .invokevirtual 39, [], 0),
  (12, 1, .aload_n 0, [], 0),
  (13, 1, .dup, [], 0),
  (14, 3, .getfield 32, [], 0),
  (17, 1, .iconst 1, [], 1),
  (18, 1, .iadd, [], 0),
  (19, 3, .putfield 32, [], 0),
  (22, 1, .return_, [], 0)]
theorem kX0_put_ok : kX0_put.all (zck cX0_put) = true := by decide +kernel

def rX0_put : Room := { frames := 1, cells := 0, slots := 0, locals := 22 }
abbrev YX0_put : zM := (RX0, cX0_put, 2, none, rX0_put, UT, zlk fX0, zcs [(39, 3, 0, 0, zvs (UT) 7 (sU_put UT))] [])
theorem YX0_put_ok : zYok (YX0_put) := zYok_of fX0_ok (zall (zcal_mono (zcalV (Y := YX0_put) (y := yX7_put) (cc := cX7_put) (nL := 3) (ret := none) (rm := rX7_put) (mU_put UT UT_small) 39 2 7 (T := TX7) rfl wX0_39 ⟨by decide +kernel, by decide +kernel, by decide +kernel⟩ (by decide) ⟨Nat.le_of_ble_eq_true rfl, Nat.le_of_ble_eq_true rfl⟩) (fun _ _ _ _ h => zvs_P h)) znil) znil

theorem mX0_put : zMet (UT) yX0_put cX0_put 2 (none) rX0_put (sX0_put) := by
  refine zmet (Y := YX0_put) rfl (by decide +kernel) ?_
  intro av F ok ex h
  unfold sX0_put at h
  split at h
  · rename_i c
    refine zgo_ok (YX0_put_ok) zno kX0_put (List.all_eq_true.mp kX0_put_ok) 0 _ _ _ _ _ ?_
    refine zleaf ok h rfl ?_
    unfold xPut
    have e : F 0 5 + 1 = zwr 50 F 2 (F 0 5) c 0 5 + 1 := by rw [zwr_ne _ _ _ _ (by decide)]
    rw [e]
  · exact h.elim

def kX0_begin : List zI := [
  (0, 1, .aload_n 0, [], 0),
  (1, 3, .getfield 20, [], 0),
  (4, 1, .aload_n 0, [], 0),
  (5, 3, .getfield 36, [], 0),
  (8, 1, .iconst 0, [], 0),
  (9, 3, .invokevirtual 39, [], 0),
  (12, 1, .aload_n 0, [], 0),
  (13, 3, .getfield 23, [], 0),
  (16, 1, .aload_n 0, [], 0),
  (17, 3, .getfield 36, [], 0),
  (20, 1, .iconst 0, [], 0),
  (21, 3, .invokevirtual 39, [], 0),
  (24, 1, .aload_n 0, [], 0),
  (25, 3, .getfield 26, [], 0),
  (28, 1, .aload_n 0, [], 0),
  (29, 3, .getfield 36, [], 0),
  (32, 1, .iconst 0, [], 0),
  (33, 3, .invokevirtual 39, [], 0),
  (36, 1, .aload_n 0, [], 0),
  (37, 3, .getfield 29, [], 0),
  (40, 1, .aload_n 0, [], 0),
  (41, 3, .getfield 36, [], 0),
  (44, 1, .iload_n 1, [], 0),
  (45, 3, .ifCond .eq 7, [52], 0),
  (48, 1, .iconst 1, [], 1),
  (49, 3, .goto 4, [53], 0),
  (52, 1, .iconst 0, [], 0),
  (53, 3, .invokevirtual 39, [], 0),
  (56, 1, .aload_n 0, [], 0),
  (57, 1, .dup, [], 0),
  (58, 3, .getfield 36, [], 0),
  (61, 1, .iconst 1, [], 1),
  (62, 1, .iadd, [], 0),
  (63, 3, .putfield 36, [], 0),
  (66, 1, .iconst 2, [], 2),
  (67, 1, .ireturn, [], 0)]
theorem kX0_begin_ok : kX0_begin.all (zck cX0_begin) = true := by decide +kernel

def rX0_begin : Room := { frames := 1, cells := 0, slots := 0, locals := 22 }
abbrev YX0_begin : zM := (RX0, cX0_begin, 2, some .int, rX0_begin, UT, zlk fX0, zcs [(39, 3, 0, 0, zvs (UT) 7 (sU_put UT))] [])
theorem YX0_begin_ok : zYok (YX0_begin) := zYok_of fX0_ok (zall (zcal_mono (zcalV (Y := YX0_begin) (y := yX7_put) (cc := cX7_put) (nL := 3) (ret := none) (rm := rX7_put) (mU_put UT UT_small) 39 2 7 (T := TX7) rfl wX0_39 ⟨by decide +kernel, by decide +kernel, by decide +kernel⟩ (by decide) ⟨Nat.le_of_ble_eq_true rfl, Nat.le_of_ble_eq_true rfl⟩) (fun _ _ _ _ h => zvs_P h)) znil) znil

theorem mX0_begin : zMet (UT) yX0_begin cX0_begin 2 (some .int) rX0_begin (sX0_begin) := by
  refine zmet (Y := YX0_begin) rfl (by decide +kernel) ?_
  intro av F ok ex h
  unfold sX0_begin at h
  split at h
  · rename_i b
    refine zgo_ok (YX0_begin_ok) zno kX0_begin (List.all_eq_true.mp kX0_begin_ok) 0 _ _ _ _ _ ?_
    have k : ∀ v, xBeg F v = zup (zwr 10 (zwr 10 (zwr 10 (zwr 10 F 4 (F 0 6) 0) 6 (zwr 10 F 4 (F 0 6) 0 0 6) 0) 8 (zwr 10 (zwr 10 F 4 (F 0 6) 0) 6 (zwr 10 F 4 (F 0 6) 0 0 6) 0 0 6) 0) 10 (zwr 10 (zwr 10 (zwr 10 F 4 (F 0 6) 0) 6 (zwr 10 F 4 (F 0 6) 0 0 6) 0) 8 (zwr 10 (zwr 10 F 4 (F 0 6) 0) 6 (zwr 10 F 4 (F 0 6) 0 0 6) 0 0 6) 0 0 6) v) 0 6 (zwr 10 (zwr 10 (zwr 10 (zwr 10 F 4 (F 0 6) 0) 6 (zwr 10 F 4 (F 0 6) 0 0 6) 0) 8 (zwr 10 (zwr 10 F 4 (F 0 6) 0) 6 (zwr 10 F 4 (F 0 6) 0 0 6) 0 0 6) 0) 10 (zwr 10 (zwr 10 (zwr 10 F 4 (F 0 6) 0) 6 (zwr 10 F 4 (F 0 6) 0 0 6) 0) 8 (zwr 10 (zwr 10 F 4 (F 0 6) 0) 6 (zwr 10 F 4 (F 0 6) 0 0 6) 0 0 6) 0 0 6) v 0 6 + 1) := fun v => by
      unfold xBeg
      simp only [zwr_ne _ _ _ _ (show 0 ≠ 4 by decide), zwr_ne _ _ _ _ (show 0 ≠ 6 by decide), zwr_ne _ _ _ _ (show 0 ≠ 8 by decide), zwr_ne _ _ _ _ (show 0 ≠ 10 by decide)]
    refine And.intro (fun h1 => ?_) (fun h1 => ?_)
    · rw [if_pos h1, k] at h
      exact h
    · rw [if_neg h1, k] at h
      exact h
  · exact h.elim

theorem zT5 (j n : Nat) (hn : zrow UT j = some n) : j = 1 ∨ j = 3 ∨ j = 5 ∨ j = 7 ∨ j = 9 := by
  have hb : j + 1 < 11 := (zrow_ok hn).1
  have h2 := (zrow_ok hn).2.1
  rcases (show j = 0 ∨ j = 1 ∨ j = 2 ∨ j = 3 ∨ j = 4 ∨ j = 5 ∨ j = 6 ∨ j = 7 ∨ j = 8 ∨ j = 9 by omega) with rfl | rfl | rfl | rfl | rfl | rfl | rfl | rfl | rfl | rfl <;> first | decide | (exfalso; revert h2; decide)

def kX0_take : List zI := [
  (0, 1, .aload_n 1, [], 0),
  (1, 1, .aload_n 0, [], 0),
  (2, 3, .getfield 36, [], 0),
  (5, 1, .iconst 1, [], 1),
  (6, 1, .isub, [], 0),
  (7, 1, .aload_n 1, [], 0),
  (8, 1, .aload_n 0, [], 0),
  (9, 3, .getfield 36, [], 0),
  (12, 1, .iconst 1, [], 1),
  (13, 1, .isub, [], 0),
  (14, 3, .invokevirtual 43, [], 0),
  (17, 2, .bipush 10, [], 10),
  (19, 1, .imul, [], 0),
  (20, 1, .iload_n 2, [], 0),
  (21, 1, .iadd, [], 0),
  (22, 3, .invokevirtual 39, [], 0),
  (25, 1, .iload_n 3, [], 0),
  (26, 1, .ireturn, [], 0)]
theorem kX0_take_ok : kX0_take.all (zck cX0_take) = true := by decide +kernel

def rX0_take : Room := { frames := 1, cells := 0, slots := 0, locals := 22 }
abbrev YX0_take : zM := (RX0, cX0_take, 4, some .int, rX0_take, UT, zlk fX0, zcs [(43, 2, 0, 0, zvs (UT) 7 (sU_at UT)), (39, 3, 0, 0, zvs (UT) 7 (sU_put UT))] [])
theorem YX0_take_ok : zYok (YX0_take) := zYok_of fX0_ok (zall (zcal_mono (zcalV (Y := YX0_take) (y := yX7_at) (cc := cX7_at) (nL := 2) (ret := some .int) (rm := rX7_at) (mU_at UT UT_small) 43 1 7 (T := TX7) rfl wX0_43 ⟨by decide +kernel, by decide +kernel, by decide +kernel⟩ (by decide) ⟨Nat.le_of_ble_eq_true rfl, Nat.le_of_ble_eq_true rfl⟩) (fun _ _ _ _ h => zvs_P h)) (zall (zcal_mono (zcalV (Y := YX0_take) (y := yX7_put) (cc := cX7_put) (nL := 3) (ret := none) (rm := rX7_put) (mU_put UT UT_small) 39 2 7 (T := TX7) rfl wX0_39 ⟨by decide +kernel, by decide +kernel, by decide +kernel⟩ (by decide) ⟨Nat.le_of_ble_eq_true rfl, Nat.le_of_ble_eq_true rfl⟩) (fun _ _ _ _ h => zvs_P h)) znil)) znil

theorem mX0_take : zMet (UT) yX0_take cX0_take 4 (some .int) rX0_take (sX0_take) := by
  refine zmet (Y := YX0_take) rfl (by decide +kernel) ?_
  intro av F ok ex h
  unfold sX0_take at h
  split at h
  · rename_i j d s
    split at h
    · rename_i n hn
      have hj := zT5 j n hn
      refine zgo_ok (YX0_take_ok) zno kX0_take (List.all_eq_true.mp kX0_take_ok) 0 _ _ _ _ _ ?_
      rcases hj with rfl | rfl | rfl | rfl | rfl
      all_goals (cases (show some n = _ from hn.symm); exact h)
    · exact h.elim
  · exact h.elim

def kX0_stateBehindDraught : List zI := [
  (0, 1, .iload_n 1, [], 0),
  (1, 2, .bipush 114, [], 114),
  (3, 3, .if_icmp .ne 8, [11], 0),
  (6, 2, .bipush 7, [], 7),
  (8, 3, .goto 14, [22], 0),
  (11, 1, .iload_n 1, [], 0),
  (12, 2, .bipush 44, [], 44),
  (14, 3, .if_icmp .ne 7, [21], 0),
  (17, 1, .iconst 1, [], 1),
  (18, 3, .goto 4, [22], 0),
  (21, 1, .iconst 0, [], 0),
  (22, 1, .ireturn, [], 0)]
theorem kX0_stateBehindDraught_ok : kX0_stateBehindDraught.all (zck cX0_stateBehindDraught) = true := by decide +kernel

def rX0_stateBehindDraught : Room := { frames := 0, cells := 0, slots := 0, locals := 0 }
abbrev YX0_stateBehindDraught : zM := (RX0, cX0_stateBehindDraught, 2, some .int, rX0_stateBehindDraught, UT, zlk fX0, zcs [] [])
theorem YX0_stateBehindDraught_ok : zYok (YX0_stateBehindDraught) := zYok_of fX0_ok znil znil

theorem mX0_stateBehindDraught : zMet (UT) yX0_stateBehindDraught cX0_stateBehindDraught 2 (some .int) rX0_stateBehindDraught (sX0_stateBehindDraught) := by
  refine zmet (Y := YX0_stateBehindDraught) rfl (by decide +kernel) ?_
  intro av F ok ex h
  unfold sX0_stateBehindDraught at h
  split at h
  · rename_i c
    refine zgo_ok (YX0_stateBehindDraught_ok) zno kX0_stateBehindDraught (List.all_eq_true.mp kX0_stateBehindDraught_ok) 0 _ _ _ _ _ ?_
    repeat' (first
      | refine And.intro (fun h0 => absurd h0 (by decide)) (fun _ => ?_)
      | refine And.intro (fun _ => ?_) (fun h0 => absurd (by decide) h0)
      | refine And.intro (fun _ => ?_) (fun _ => ?_)
      | refine And.intro (fun _ => ?_) ?_
      | refine Exists.intro ?_ ?_)
    · rename_i h1 h2
      exact zleaf ok h (by simp [xSD, h1, h2]) rfl
    · rename_i h1 h2
      exact zleaf ok h (by simp [xSD, h1, h2]) rfl
    · rename_i h1
      exact zleaf ok h (by simp [xSD, h1]) rfl
  · exact h.elim

def kX0_stateBehind : List zI := [
  (0, 1, .iload_n 2, [], 0),
  (1, 2, .bipush 48, [], 48),
  (3, 3, .if_icmp .lt 16, [19], 0),
  (6, 1, .iload_n 2, [], 0),
  (7, 2, .bipush 57, [], 57),
  (9, 3, .if_icmp .gt 10, [19], 0),
  (12, 1, .iload_n 2, [], 0),
  (13, 2, .bipush 48, [], 48),
  (15, 1, .isub, [], 0),
  (16, 3, .goto 4, [20], 0),
  (19, 1, .iconst (-1), [], (-1)),
  (20, 1, .istore_n 3, [], 0),
  (21, 1, .iload_n 1, [], 0),
  (22, 42, .tableswitch 181 1 7 #[42, 74, 94, 106, 126, 150, 156], [203, 64, 96, 116, 128, 148, 172, 178], 0),
  (64, 1, .iload_n 2, [], 0),
  (65, 2, .bipush 100, [], 100),
  (67, 3, .if_icmp .eq 9, [76], 0),
  (70, 1, .iload_n 2, [], 0),
  (71, 2, .bipush 117, [], 117),
  (73, 3, .if_icmp .ne 21, [94], 0),
  (76, 1, .aload_n 0, [], 0),
  (77, 1, .iload_n 2, [], 0),
  (78, 2, .bipush 117, [], 117),
  (80, 3, .if_icmp .ne 7, [87], 0),
  (83, 1, .iconst 1, [], 1),
  (84, 3, .goto 4, [88], 0),
  (87, 1, .iconst 0, [], 0),
  (88, 3, .invokevirtual 51, [], 0),
  (91, 3, .goto 4, [95], 0),
  (94, 1, .iconst 0, [], 0),
  (95, 1, .ireturn, [], 0),
  (96, 1, .iload_n 3, [], 0),
  (97, 1, .iconst 1, [], 1),
  (98, 3, .if_icmp .lt 16, [114], 0),
  (101, 1, .aload_n 0, [], 0),
  (102, 1, .aload_n 0, [], 0),
  (103, 3, .getfield 20, [], 0),
  (106, 1, .iload_n 3, [], 0),
  (107, 1, .iconst 3, [], 3),
  (108, 3, .invokevirtual 55, [], 0),
  (111, 3, .goto 4, [115], 0),
  (114, 1, .iconst 0, [], 0),
  (115, 1, .ireturn, [], 0),
  (116, 1, .iload_n 2, [], 0),
  (117, 2, .bipush 116, [], 116),
  (119, 3, .if_icmp .ne 7, [126], 0),
  (122, 1, .iconst 4, [], 4),
  (123, 3, .goto 4, [127], 0),
  (126, 1, .iconst 0, [], 0),
  (127, 1, .ireturn, [], 0),
  (128, 1, .iload_n 3, [], 0),
  (129, 1, .iconst 1, [], 1),
  (130, 3, .if_icmp .lt 16, [146], 0),
  (133, 1, .aload_n 0, [], 0),
  (134, 1, .aload_n 0, [], 0),
  (135, 3, .getfield 23, [], 0),
  (138, 1, .iload_n 3, [], 0),
  (139, 1, .iconst 5, [], 5),
  (140, 3, .invokevirtual 55, [], 0),
  (143, 3, .goto 4, [147], 0),
  (146, 1, .iconst 0, [], 0),
  (147, 1, .ireturn, [], 0),
  (148, 1, .iload_n 3, [], 0),
  (149, 3, .ifCond .lt 17, [166], 0),
  (152, 1, .aload_n 0, [], 0),
  (153, 1, .aload_n 0, [], 0),
  (154, 3, .getfield 23, [], 0),
  (157, 1, .iload_n 3, [], 0),
  (158, 2, .bipush 6, [], 6),
  (160, 3, .invokevirtual 55, [], 0),
  (163, 3, .goto 8, [171], 0),
  (166, 1, .aload_n 0, [], 0),
  (167, 1, .iload_n 2, [], 0),
  (168, 3, .invokevirtual 59, [], 0),
  (171, 1, .ireturn, [], 0),
  (172, 1, .aload_n 0, [], 0),
  (173, 1, .iload_n 2, [], 0),
  (174, 3, .invokevirtual 59, [], 0),
  (177, 1, .ireturn, [], 0),
  (178, 1, .iload_n 3, [], 0),
  (179, 3, .ifCond .lt 22, [201], 0),
  (182, 1, .iload_n 3, [], 0),
  (183, 1, .iconst 3, [], 3),
  (184, 3, .if_icmp .gt 17, [201], 0),
  (187, 1, .aload_n 0, [], 0),
  (188, 1, .aload_n 0, [], 0),
  (189, 3, .getfield 26, [], 0),
  (192, 1, .iload_n 3, [], 0),
  (193, 2, .bipush 8, [], 8),
  (195, 3, .invokevirtual 55, [], 0),
  (198, 3, .goto 4, [202], 0),
  (201, 1, .iconst 0, [], 0),
  (202, 1, .ireturn, [], 0),
  (203, 1, .iload_n 2, [], 0),
  (204, 2, .bipush 44, [], 44),
  (206, 3, .if_icmp .ne 7, [213], 0),
  (209, 1, .iconst 1, [], 1),
  (210, 3, .goto 4, [214], 0),
  (213, 1, .iconst 0, [], 0),
  (214, 1, .ireturn, [], 0)]
theorem kX0_stateBehind_ok : kX0_stateBehind.all (zck cX0_stateBehind) = true := by decide +kernel

def rX0_stateBehind : Room := { frames := 2, cells := 0, slots := 0, locals := 45 }
abbrev YX0_stateBehind : zM := (RX0, cX0_stateBehind, 4, some .int, rX0_stateBehind, UT, zlk fX0, zcs [(51, 2, 0, 0, zvs (UT) 0 (sX0_begin)), (55, 4, 0, 0, zvs (UT) 0 (sX0_take)), (59, 2, 0, 0, zvs (UT) 0 (sX0_stateBehindDraught))] [])
theorem YX0_stateBehind_ok : zYok (YX0_stateBehind) := zYok_of fX0_ok (zall (zcal_mono (zcalV (Y := YX0_stateBehind) (y := yX0_begin) (cc := cX0_begin) (nL := 2) (ret := some .int) (rm := rX0_begin) (mX0_begin) 51 1 0 (T := TX0) rfl wX0_51 ⟨by decide +kernel, by decide +kernel, by decide +kernel⟩ (by decide) ⟨Nat.le_of_ble_eq_true rfl, Nat.le_of_ble_eq_true rfl⟩) (fun _ _ _ _ h => zvs_P h)) (zall (zcal_mono (zcalV (Y := YX0_stateBehind) (y := yX0_take) (cc := cX0_take) (nL := 4) (ret := some .int) (rm := rX0_take) (mX0_take) 55 3 0 (T := TX0) rfl wX0_55 ⟨by decide +kernel, by decide +kernel, by decide +kernel⟩ (by decide) ⟨Nat.le_of_ble_eq_true rfl, Nat.le_of_ble_eq_true rfl⟩) (fun _ _ _ _ h => zvs_P h)) (zall (zcal_mono (zcalV (Y := YX0_stateBehind) (y := yX0_stateBehindDraught) (cc := cX0_stateBehindDraught) (nL := 2) (ret := some .int) (rm := rX0_stateBehindDraught) (mX0_stateBehindDraught) 59 1 0 (T := TX0) rfl wX0_59 ⟨by decide +kernel, by decide +kernel, by decide +kernel⟩ (by decide) ⟨Nat.le_of_ble_eq_true rfl, Nat.le_of_ble_eq_true rfl⟩) (fun _ _ _ _ h => zvs_P h)) znil))) znil

theorem lX0_stateBehind (ok : zO) (ex : zX) (F : zF) (s c : Int32) (h : ok (some (.int (xSt F s c).1)) (xSt F s c).2) : zgo YX0_stateBehind ok ex zi0 (kX0_stateBehind.drop 10) 20 [some (.ref 0), some (.int s), some (.int c), none] [.int (xDig c)] 0 0 F := by
  unfold xSt at h
  have hl : ∀ {x y : Int32}, ¬ x < y → y ≤ x := fun z => Int32.not_lt.mp z
  refine And.intro (And.intro (fun hs => ?_) (And.intro (fun hs => ?_) (And.intro (fun hs => ?_) (And.intro (fun hs => ?_) (And.intro (fun hs => ?_) (And.intro (fun hs => ?_) (And.intro (fun hs => ?_) True.intro))))))) (fun hd => ?_)
  · have hs : s = 1 := hs.trans (by decide)
    rw [if_pos hs] at h
    refine And.intro (fun h1 => ?_) (fun h1 => And.intro (fun h2 => ?_) (fun h2 => ?_))
    · rw [if_pos (Or.inl h1), if_neg (by rw [h1]; decide)] at h
      exact And.intro (fun _ => h) (fun h3 => absurd (h1.symm.trans h3) (by decide))
    · rw [if_neg (fun q => q.elim h1 h2)] at h
      exact h
    · rw [if_pos (Or.inr h2), if_pos h2] at h
      exact And.intro (fun h3 => absurd h2 h3) (fun _ => h)
  · have hs : s = 2 := hs.trans (by decide)
    rw [if_neg (by rw [hs]; decide), if_pos hs] at h
    refine And.intro (fun h1 => ?_) (fun h1 => ?_)
    · rw [if_neg (Int32.not_le.mpr h1)] at h
      exact h
    · rw [if_pos (hl h1)] at h
      exact h
  · have hs : s = 3 := hs.trans (by decide)
    rw [if_neg (by rw [hs]; decide), if_neg (by rw [hs]; decide), if_pos hs] at h
    refine And.intro (fun h1 => ?_) (fun h1 => ?_)
    · rw [if_neg h1] at h
      exact h
    · rw [if_pos h1] at h
      exact h
  · have hs : s = 4 := hs.trans (by decide)
    rw [if_neg (by rw [hs]; decide), if_neg (by rw [hs]; decide), if_neg (by rw [hs]; decide), if_pos hs] at h
    refine And.intro (fun h1 => ?_) (fun h1 => ?_)
    · rw [if_neg (Int32.not_le.mpr h1)] at h
      exact h
    · rw [if_pos (hl h1)] at h
      exact h
  · have hs : s = 5 := hs.trans (by decide)
    rw [if_neg (by rw [hs]; decide), if_neg (by rw [hs]; decide), if_neg (by rw [hs]; decide), if_neg (by rw [hs]; decide), if_pos hs] at h
    refine And.intro (fun h1 => ?_) (fun h1 => ?_)
    · rw [if_neg (Int32.not_le.mpr h1)] at h
      exact h
    · rw [if_pos (hl h1)] at h
      exact h
  · have hs : s = 6 := hs.trans (by decide)
    rw [if_neg (by rw [hs]; decide), if_neg (by rw [hs]; decide), if_neg (by rw [hs]; decide), if_neg (by rw [hs]; decide), if_neg (by rw [hs]; decide), if_pos hs] at h
    exact h
  · have hs : s = 7 := hs.trans (by decide)
    rw [if_neg (by rw [hs]; decide), if_neg (by rw [hs]; decide), if_neg (by rw [hs]; decide), if_neg (by rw [hs]; decide), if_neg (by rw [hs]; decide), if_neg (by rw [hs]; decide), if_pos hs] at h
    refine And.intro (fun h1 => ?_) (fun h1 => And.intro (fun h2 => ?_) (fun h2 => ?_))
    · rw [if_neg (fun q => Int32.not_le.mpr h1 q.1)] at h
      exact h
    · rw [if_neg (fun q => Int32.not_le.mpr h2 q.2)] at h
      exact h
    · rw [if_pos ⟨hl h1, hl h2⟩] at h
      exact h
  · rw [if_neg (fun q => by rw [q] at hd; revert hd; decide), if_neg (fun q => by rw [q] at hd; revert hd; decide), if_neg (fun q => by rw [q] at hd; revert hd; decide), if_neg (fun q => by rw [q] at hd; revert hd; decide), if_neg (fun q => by rw [q] at hd; revert hd; decide), if_neg (fun q => by rw [q] at hd; revert hd; decide), if_neg (fun q => by rw [q] at hd; revert hd; decide)] at h
    refine And.intro (fun h1 => ?_) (fun h1 => ?_)
    · rw [if_neg h1] at h
      exact h
    · rw [if_pos h1] at h
      exact h

theorem mX0_stateBehind : zMet (UT) yX0_stateBehind cX0_stateBehind 4 (some .int) rX0_stateBehind (sX0_stateBehind) := by
  refine zmet (Y := YX0_stateBehind) rfl (by decide +kernel) ?_
  intro av F ok ex h
  unfold sX0_stateBehind at h
  split at h
  · rename_i s c
    refine zgo_ok (YX0_stateBehind_ok) zno kX0_stateBehind (List.all_eq_true.mp kX0_stateBehind_ok) 0 _ _ _ _ _ ?_
    have key := lX0_stateBehind ok ex F s c h
    unfold xDig at key
    refine And.intro (fun h1 => ?_) (fun h1 => And.intro (fun h2 => ?_) (fun h2 => ?_))
    · rw [if_pos h1] at key
      exact key
    · rw [if_neg h1, if_pos h2] at key
      exact key
    · rw [if_neg h1, if_neg h2] at key
      exact key
  · exact h.elim

def kX0_read : List zI := [
  (0, 1, .aload_n 0, [], 0),
  (1, 1, .iconst 0, [], 0),
  (2, 3, .putfield 36, [], 0),
  (5, 1, .iconst 1, [], 1),
  (6, 1, .istore_n 1, [], 0),
  (7, 1, .iconst 0, [], 0),
  (8, 1, .istore_n 2, [], 0),
  (9, 1, .iload_n 2, [], 0),
  (10, 1, .aload_n 0, [], 0),
  (11, 3, .getfield 32, [], 0),
  (14, 3, .if_icmp .ge 29, [43], 0),
  (17, 1, .aload_n 0, [], 0),
  (18, 1, .iload_n 1, [], 0),
  (19, 1, .aload_n 0, [], 0),
  (20, 3, .getfield 14, [], 0),
  (23, 1, .iload_n 2, [], 0),
  (24, 3, .invokevirtual 43, [], 0),
  (27, 3, .invokevirtual 47, [], 0),
  (30, 1, .istore_n 1, [], 0),
  (31, 1, .iload_n 1, [], 0),
  (32, 3, .ifCond .ne 5, [37], 0),
  (35, 1, .iload_n 2, [], 0),
  (36, 1, .ireturn, [], 0),
  (37, 3, .iinc 2 1, [], 1),
  (40, 3, .goto (-31), [9], 0),
  (43, 1, .iload_n 1, [], 0),
  (44, 1, .iconst 5, [], 5),
  (45, 3, .if_icmp .eq 15, [60], 0),
  (48, 1, .iload_n 1, [], 0),
  (49, 2, .bipush 6, [], 6),
  (51, 3, .if_icmp .eq 9, [60], 0),
  (54, 1, .iload_n 1, [], 0),
  (55, 2, .bipush 8, [], 8),
  (57, 3, .if_icmp .ne 7, [64], 0),
  (60, 1, .iconst 1, [], 1),
  (61, 3, .goto 4, [65], 0),
  (64, 1, .iconst 0, [], 0),
  (65, 1, .istore_n 2, [], 0),
  (66, 1, .iload_n 2, [], 0),
  (67, 3, .ifCond .eq 7, [74], 0),
  (70, 1, .iconst (-1), [], (-1)),
  (71, 3, .goto 7, [78], 0),
  (74, 1, .aload_n 0, [], 0),
  (75, 3, .getfield 32, [], 0),
  (78, 1, .ireturn, [], 0)]
theorem kX0_read_ok : kX0_read.all (zck cX0_read) = true := by decide +kernel

def rX0_read : Room := { frames := 3, cells := 0, slots := 0, locals := 68 }
abbrev YX0_read : zM := (RX0, cX0_read, 3, some .int, rX0_read, UT, zlk fX0, zcs [(43, 2, 0, 0, zvs (UT) 7 (sU_at UT)), (47, 3, 0, 0, zvs (UT) 0 (sX0_stateBehind))] [])
theorem YX0_read_ok : zYok (YX0_read) := zYok_of fX0_ok (zall (zcal_mono (zcalV (Y := YX0_read) (y := yX7_at) (cc := cX7_at) (nL := 2) (ret := some .int) (rm := rX7_at) (mU_at UT UT_small) 43 1 7 (T := TX7) rfl wX0_43 ⟨by decide +kernel, by decide +kernel, by decide +kernel⟩ (by decide) ⟨Nat.le_of_ble_eq_true rfl, Nat.le_of_ble_eq_true rfl⟩) (fun _ _ _ _ h => zvs_P h)) (zall (zcal_mono (zcalV (Y := YX0_read) (y := yX0_stateBehind) (cc := cX0_stateBehind) (nL := 4) (ret := some .int) (rm := rX0_stateBehind) (mX0_stateBehind) 47 2 0 (T := TX0) rfl wX0_47 ⟨by decide +kernel, by decide +kernel, by decide +kernel⟩ (by decide) ⟨Nat.le_of_ble_eq_true rfl, Nat.le_of_ble_eq_true rfl⟩) (fun _ _ _ _ h => zvs_P h)) znil)) znil

theorem lX0_read (ok : zO) (ex : zX) (N : Int32) : ∀ (d k : Nat) (F : zF) (s : Int32), k + d = N.toNatClampNeg → F 0 5 = N → ok (some (.int (xRd d k F s).1)) (xRd d k F s).2 → zWP YX0_read ok ex 9 [some (.ref 0), some (.int s), some (.int (nI k))] [] 0 0 F := by
  intro d
  induction d with
  | zero =>
    intro k F s hk hN h
    have hk : k = N.toNatClampNeg := hk
    refine zat_ok YX0_read_ok zno kX0_read (List.all_eq_true.mp kX0_read_ok) 9 _ _ _ _ _ ?_
    unfold xRd at h
    refine And.intro (fun _ => ?_) (fun h1 => absurd ?_ h1)
    · refine And.intro (fun h1 => ?_) (fun h1 => And.intro (fun h2 => ?_) (fun h2 => And.intro (fun h3 => ?_) (fun h3 => ?_)))
      · rw [if_pos (Or.inl h1)] at h
        exact And.intro (fun h0 => absurd h0 (by decide)) (fun _ => h)
      · rw [if_pos (Or.inr (Or.inl h2))] at h
        exact And.intro (fun h0 => absurd h0 (by decide)) (fun _ => h)
      · rw [if_neg (fun q => q.elim h1 (fun q => q.elim h2 h3))] at h
        exact And.intro (fun _ => h) (fun h0 => absurd rfl h0)
      · rw [if_pos (Or.inr (Or.inr h3))] at h
        exact And.intro (fun h0 => absurd h0 (by decide)) (fun _ => h)
    · show F 0 5 ≤ nI k
      rw [hN, hk]
      exact zcnt_ge _
  | succ d ih =>
    intro k F s hk hN h
    refine zat_ok YX0_read_ok (inv := zi1 9 (fun ls st kc ks G => zWP YX0_read ok ex 9 ls st kc ks G)) (zone fun _ _ _ _ _ h => h) kX0_read (List.all_eq_true.mp kX0_read_ok) 9 _ _ _ _ _ ?_
    refine And.intro (fun h1 => absurd (show N ≤ nI k by rw [← hN]; exact h1) (zcnt_lt (c := N) (k := k) (by omega))) (fun _ => ?_)
    have e : xRd (d + 1) k F s = if (xSt F s (zrd 50 (F 2) (nI k))).1 = 0 then (nI k, (xSt F s (zrd 50 (F 2) (nI k))).2) else xRd d (k + 1) (xSt F s (zrd 50 (F 2) (nI k))).2 (xSt F s (zrd 50 (F 2) (nI k))).1 := rfl
    rw [e] at h
    refine And.intro (fun h1 => ?_) (fun h1 => ?_)
    · have h1 : ¬ (xSt F s (zrd 50 (F 2) (nI k))).1 = 0 := h1
      rw [if_neg h1] at h
      have := ih (k + 1) _ _ (by omega) ((xSt_5 F s _).trans hN) h
      rw [← nI_1] at this
      exact this
    · have h1 : (xSt F s (zrd 50 (F 2) (nI k))).1 = 0 := h1
      rw [if_pos h1] at h
      exact h

theorem mX0_read : zMet (UT) yX0_read cX0_read 3 (some .int) rX0_read (sX0_read) := by
  refine zmet (Y := YX0_read) rfl (by decide +kernel) ?_
  intro av F ok ex h
  unfold sX0_read at h
  split at h
  · refine zgo_ok (YX0_read_ok) (inv := zi1 9 (fun ls st kc ks G => zWP YX0_read ok ex 9 ls st kc ks G)) (zone fun _ _ _ _ _ h => h) kX0_read (List.all_eq_true.mp kX0_read_ok) 0 _ _ _ _ _ ?_
    exact lX0_read ok ex (F 0 5) _ 0 (zup F 0 6 0) 1 (Nat.zero_add _) (zup_an _ _ _ (by decide)) h
  · exact h.elim

end ZTx
