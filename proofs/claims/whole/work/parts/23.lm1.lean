/-! a LockMaster's own helps, and Changes, in the world of a LockMaster -/
section ZL1
set_option maxRecDepth 20000
theorem zmem_of {w : Cond} (h : (decide (w ∈ lw_tbl) && goodWord w) = true) : w ∈ zts := by
  rw [Bool.and_eq_true] at h
  exact List.mem_filter.mpr ⟨of_decide_eq_true h.1, h.2⟩
/-- a condition, or a throw -/
def zfo (c : Prop) (E : String) (F : zF) (ex : zX) (A : Prop) : Prop := (c → A) ∧ (¬ c → ex E F)
def sX8_isWithin : zSp := fun as F ok _ => match as with
  | [.int x, .int a, .int b] => zbo (a ≤ x ∧ x ≤ b) F ok
  | _ => False
def aMost (s : Int32) : Int32 := if s = 0 then 20 else if s = 1 then 50 else 99
def sX8_mostOfSetting : zSp := fun as F ok _ => match as with
  | [.int s] => ok (some (.int (aMost s))) F
  | _ => False
def sX8_requireIndex : zSp := fun as F ok ex => match as with
  | [.int i, .int n] => zfo (0 ≤ i ∧ i < n) "java/lang/IndexOutOfBoundsException" F ex (ok none F)
  | _ => False
def sX8_requireArgument : zSp := fun as F ok ex => match as with
  | [.int b] => zfo (¬ b = 0) "java/lang/IllegalArgumentException" F ex (ok none F)
  | _ => False
def sX8_requireState : zSp := fun as F ok ex => match as with
  | [.int b] => zfo (¬ b = 0) "java/lang/IllegalStateException" F ex (ok none F)
  | _ => False
def sX8_requireElement : zSp := fun as F ok ex => match as with
  | [.int b] => zfo (¬ b = 0) "java/util/NoSuchElementException" F ex (ok none F)
  | _ => False
def sX8_refuseFor : zSp := fun as F ok ex => match as with
  | [.ref 495, .int y] => (y = 0 → ok none F) ∧ (¬ y = 0 → ex "java/lang/UnsupportedOperationException" (zup F 495 7 y))
  | _ => False
def aRS (F : zF) (m : Int32) : Int32 := if F 25 9 + m ≤ 16 then (if F 1 3 < 2 then 5 else 0) else 4
def sX8_refusalOfShips : zSp := fun as F ok _ => match as with
  | [.ref 495, .int m] => ok (some (.int (aRS F m))) F
  | _ => False
def aRJ (F : zF) (s t : Int32) : Int32 := if (0 ≤ s ∧ s < F 25 9) ∧ (0 ≤ t ∧ t < F 25 9) then (if qFi F s = qFi F t then 2 else if ¬ qWa F s = -1 ∧ qWa F s = qWa F t ∧ qUp F s = qUp F t then 0 else 3) else 1
def sX8_refusalOfJoin : zSp := fun as F ok _ => match as with
  | [.ref 495, .int s, .int t] => ok (some (.int (aRJ F s t))) F
  | _ => False
def aRP (F : zF) (s : Int32) : Int32 := if 0 ≤ s ∧ s < F 25 9 then (if qSIC F s = 1 then 6 else 0) else 1
def sX8_refusalOfPart : zSp := fun as F ok _ => match as with
  | [.ref 495, .int s] => ok (some (.int (aRP F s))) F
  | _ => False
def aKept (F : zF) (k : Nat) : zF := zcp F (135 + 45 * k) 0
def sX2_newestKept : zSp := fun as F ok _ => match as with
  | [.ref 496] => ∃ k, k < 8 ∧ F 496 1 = nI k ∧ ok (some (.ref (135 + 45 * k))) F
  | _ => False
def aNew (F : zF) : Int32 := if F 496 1 + 1 < 8 then F 496 1 + 1 else 0
def aKp (F : zF) : zF := zup (zup F 496 1 (aNew F)) 496 2 (imin (F 496 2 + 1) 8)
def sX2_keep : zSp := fun as F ok _ => match as with
  | [.ref 496, .ref 0] => ∃ k, k < 8 ∧ aNew F = nI k ∧ ok none (zcp (aKp F) (135 + 45 * k) 0)
  | _ => False
def aOld (F : zF) : Int32 := if 0 < F 496 1 then F 496 1 - 1 else 7
def aTb (F G : zF) : zF := zup (zup G 496 1 (aOld F)) 496 2 (F 496 2 - 1)
def sX2_takeBack : zSp := fun as F ok _ => match as with
  | [.ref 496, .ref 0] => ∃ k, k < 8 ∧ F 496 1 = nI k ∧ ok none (aTb F (zcp F 0 (135 + 45 * k)))
  | _ => False
def sX2_forget : zSp := fun as F ok _ => match as with
  | [.ref 496] => ok none (zup F 496 2 0)
  | _ => False

def kX8_isWithin : List zI := [
  (0, 1, .iload_n 0, [], 0),
  (1, 1, .iload_n 1, [], 0),
  (2, 3, .if_icmp .lt 12, [14], 0),
  (5, 1, .iload_n 0, [], 0),
  (6, 1, .iload_n 2, [], 0),
  (7, 3, .if_icmp .gt 7, [14], 0),
  (10, 1, .iconst 1, [], 1),
  (11, 3, .goto 4, [15], 0),
  (14, 1, .iconst 0, [], 0),
  (15, 1, .ireturn, [], 0)]
theorem kX8_isWithin_ok : kX8_isWithin.all (zck cX8_isWithin) = true := by decide +kernel

def rX8_isWithin : Room := { frames := 0, cells := 0, slots := 0, locals := 0 }
abbrev YX8_isWithin : zM := (RX8, cX8_isWithin, 3, some .boolean, rX8_isWithin, ULM, zlk fX8, zcs [] [])
theorem YX8_isWithin_ok : zYok (YX8_isWithin) := zYok_of fX8_ok znil znil

theorem mX8_isWithin : zMet (ULM) yX8_isWithin cX8_isWithin 3 (some .boolean) rX8_isWithin (sX8_isWithin) := by
  refine zmet (Y := YX8_isWithin) rfl (by decide +kernel) ?_
  intro av F ok ex h
  unfold sX8_isWithin at h
  split at h
  · rename_i x a b
    refine zgo_ok (YX8_isWithin_ok) zno kX8_isWithin (List.all_eq_true.mp kX8_isWithin_ok) 0 _ _ _ _ _ ?_
    refine And.intro (fun h1 => Exists.intro (Or.inl rfl) (h.2 fun hc => absurd h1 (Int32.not_lt.mpr hc.1))) (fun h1 => ?_)
    refine And.intro (fun h2 => Exists.intro (Or.inl rfl) (h.2 fun hc => absurd h2 (Int32.not_lt.mpr hc.2))) (fun h2 => Exists.intro (Or.inr rfl) (h.1 ⟨Int32.not_lt.mp h1, Int32.not_lt.mp h2⟩))
  · exact h.elim

def kX8_mostOfSetting : List zI := [
  (0, 1, .iload_n 0, [], 0),
  (1, 3, .ifCond .ne 8, [9], 0),
  (4, 2, .bipush 20, [], 20),
  (6, 3, .goto 15, [21], 0),
  (9, 1, .iload_n 0, [], 0),
  (10, 1, .iconst 1, [], 1),
  (11, 3, .if_icmp .ne 8, [19], 0),
  (14, 2, .bipush 50, [], 50),
  (16, 3, .goto 5, [21], 0),
  (19, 2, .bipush 99, [], 99),
  (21, 1, .ireturn, [], 0)]
theorem kX8_mostOfSetting_ok : kX8_mostOfSetting.all (zck cX8_mostOfSetting) = true := by decide +kernel

def rX8_mostOfSetting : Room := { frames := 0, cells := 0, slots := 0, locals := 0 }
abbrev YX8_mostOfSetting : zM := (RX8, cX8_mostOfSetting, 1, some .int, rX8_mostOfSetting, ULM, zlk fX8, zcs [] [])
theorem YX8_mostOfSetting_ok : zYok (YX8_mostOfSetting) := zYok_of fX8_ok znil znil

theorem mX8_mostOfSetting : zMet (ULM) yX8_mostOfSetting cX8_mostOfSetting 1 (some .int) rX8_mostOfSetting (sX8_mostOfSetting) := by
  refine zmet (Y := YX8_mostOfSetting) rfl (by decide +kernel) ?_
  intro av F ok ex h
  unfold sX8_mostOfSetting at h
  split at h
  · rename_i s
    refine zgo_ok (YX8_mostOfSetting_ok) zno kX8_mostOfSetting (List.all_eq_true.mp kX8_mostOfSetting_ok) 0 _ _ _ _ _ ?_
    unfold aMost at h
    refine And.intro (fun h1 => ?_) (fun h1 => ?_)
    · rw [if_neg h1] at h
      refine And.intro (fun h2 => ?_) (fun h2 => ?_)
      · rw [if_neg h2] at h
        exact h
      · rw [if_pos h2] at h
        exact h
    · rw [if_pos h1] at h
      exact h
  · exact h.elim

def kX8_requireIndex : List zI := [
  (0, 1, .iload_n 0, [], 0),
  (1, 3, .ifCond .lt 8, [9], 0),
  (4, 1, .iload_n 0, [], 0),
  (5, 1, .iload_n 1, [], 0),
  (6, 3, .if_icmp .lt 14, [20], 0),
  (9, 3, .new 302, [], 0),
  (12, 1, .dup, [], 0),
  (13, 3, .ldc_w 304, [], 0),
  (16, 3, .invokespecial 306, [], 0),
  (19, 1, .athrow, [], 0),
  (20, 1, .return_, [], 0)]
theorem kX8_requireIndex_ok : kX8_requireIndex.all (zck cX8_requireIndex) = true := by decide +kernel

def rX8_requireIndex : Room := { frames := 6, cells := 1, slots := 6, locals := 82 }
abbrev YX8_requireIndex : zM := (RX8, cX8_requireIndex, 2, none, rX8_requireIndex, ULM, zlk fX8, zcs [] [])
theorem YX8_requireIndex_ok : zYok (YX8_requireIndex) := zYok_of fX8_ok znil znil

theorem mX8_requireIndex : zMet (ULM) yX8_requireIndex cX8_requireIndex 2 (none) rX8_requireIndex (sX8_requireIndex) := by
  refine zmet (Y := YX8_requireIndex) rfl (by decide +kernel) ?_
  intro av F ok ex h
  unfold sX8_requireIndex at h
  split at h
  · rename_i i n
    refine zgo_ok (YX8_requireIndex_ok) (inv := zi1 9 (fun ls st kc ks G => zWP YX8_requireIndex ok ex 9 ls st kc ks G)) (zone fun _ _ _ _ _ h => h) kX8_requireIndex (List.all_eq_true.mp kX8_requireIndex_ok) 0 _ _ _ _ _ ?_
    refine And.intro (fun h1 => ?_) (fun h1 => ?_)
    · exact (zthrow (Y := YX8_requireIndex) (ik := 302) (is := 304) (ic := 306) (E := "java/lang/IndexOutOfBoundsException") (text := "there is no such number") (names := ["java/lang/RuntimeException", "java/lang/Exception"]) (by decide +kernel) (by decide +kernel) (by decide +kernel) (zmem_of (by decide +kernel)) (zmem_of (by decide +kernel)) (by decide +kernel) (by decide +kernel) (by decide +kernel) (by decide +kernel) (by decide +kernel) (by decide +kernel) (by decide +kernel) (by decide) (by decide) (by decide) (by decide) (h.2 fun hc => absurd h1 (Int32.not_lt.mpr hc.1)))
    · refine And.intro (fun h2 => h.1 ⟨Int32.not_lt.mp h1, h2⟩) (fun h2 => ?_)
      exact (zthrow (Y := YX8_requireIndex) (ik := 302) (is := 304) (ic := 306) (E := "java/lang/IndexOutOfBoundsException") (text := "there is no such number") (names := ["java/lang/RuntimeException", "java/lang/Exception"]) (by decide +kernel) (by decide +kernel) (by decide +kernel) (zmem_of (by decide +kernel)) (zmem_of (by decide +kernel)) (by decide +kernel) (by decide +kernel) (by decide +kernel) (by decide +kernel) (by decide +kernel) (by decide +kernel) (by decide +kernel) (by decide) (by decide) (by decide) (by decide) (h.2 fun hc => absurd hc.2 h2))
  · exact h.elim

def kX8_requireArgument : List zI := [
  (0, 1, .iload_n 0, [], 0),
  (1, 3, .ifCond .ne 14, [15], 0),
  (4, 3, .new 307, [], 0),
  (7, 1, .dup, [], 0),
  (8, 3, .ldc_w 309, [], 0),
  (11, 3, .invokespecial 311, [], 0),
  (14, 1, .athrow, [], 0),
  (15, 1, .return_, [], 0)]
theorem kX8_requireArgument_ok : kX8_requireArgument.all (zck cX8_requireArgument) = true := by decide +kernel

def rX8_requireArgument : Room := { frames := 6, cells := 1, slots := 6, locals := 82 }
abbrev YX8_requireArgument : zM := (RX8, cX8_requireArgument, 1, none, rX8_requireArgument, ULM, zlk fX8, zcs [] [])
theorem YX8_requireArgument_ok : zYok (YX8_requireArgument) := zYok_of fX8_ok znil znil

theorem mX8_requireArgument : zMet (ULM) yX8_requireArgument cX8_requireArgument 1 (none) rX8_requireArgument (sX8_requireArgument) := by
  refine zmet (Y := YX8_requireArgument) rfl (by decide +kernel) ?_
  intro av F ok ex h
  unfold sX8_requireArgument at h
  split at h
  · rename_i b
    refine zgo_ok (YX8_requireArgument_ok) (inv := zi1 4 (fun ls st kc ks G => zWP YX8_requireArgument ok ex 4 ls st kc ks G)) (zone fun _ _ _ _ _ h => h) kX8_requireArgument (List.all_eq_true.mp kX8_requireArgument_ok) 0 _ _ _ _ _ ?_
    refine And.intro (fun h1 => h.1 h1) (fun h1 => ?_)
    exact (zthrow (Y := YX8_requireArgument) (ik := 307) (is := 309) (ic := 311) (E := "java/lang/IllegalArgumentException") (text := "an argument or the text is not allowed") (names := ["java/lang/RuntimeException", "java/lang/Exception"]) (by decide +kernel) (by decide +kernel) (by decide +kernel) (zmem_of (by decide +kernel)) (zmem_of (by decide +kernel)) (by decide +kernel) (by decide +kernel) (by decide +kernel) (by decide +kernel) (by decide +kernel) (by decide +kernel) (by decide +kernel) (by decide) (by decide) (by decide) (by decide) (h.2 fun hc => absurd h1 hc))
  · exact h.elim

def kX8_requireState : List zI := [
  (0, 1, .iload_n 0, [], 0),
  (1, 3, .ifCond .ne 14, [15], 0),
  (4, 3, .new 312, [], 0),
  (7, 1, .dup, [], 0),
  (8, 3, .ldc_w 314, [], 0),
  (11, 3, .invokespecial 316, [], 0),
  (14, 1, .athrow, [], 0),
  (15, 1, .return_, [], 0)]
theorem kX8_requireState_ok : kX8_requireState.all (zck cX8_requireState) = true := by decide +kernel

def rX8_requireState : Room := { frames := 6, cells := 1, slots := 6, locals := 82 }
abbrev YX8_requireState : zM := (RX8, cX8_requireState, 1, none, rX8_requireState, ULM, zlk fX8, zcs [] [])
theorem YX8_requireState_ok : zYok (YX8_requireState) := zYok_of fX8_ok znil znil

theorem mX8_requireState : zMet (ULM) yX8_requireState cX8_requireState 1 (none) rX8_requireState (sX8_requireState) := by
  refine zmet (Y := YX8_requireState) rfl (by decide +kernel) ?_
  intro av F ok ex h
  unfold sX8_requireState at h
  split at h
  · rename_i b
    refine zgo_ok (YX8_requireState_ok) (inv := zi1 4 (fun ls st kc ks G => zWP YX8_requireState ok ex 4 ls st kc ks G)) (zone fun _ _ _ _ _ h => h) kX8_requireState (List.all_eq_true.mp kX8_requireState_ok) 0 _ _ _ _ _ ?_
    refine And.intro (fun h1 => h.1 h1) (fun h1 => ?_)
    exact (zthrow (Y := YX8_requireState) (ik := 312) (is := 314) (ic := 316) (E := "java/lang/IllegalStateException") (text := "the state does not allow this call") (names := ["java/lang/RuntimeException", "java/lang/Exception"]) (by decide +kernel) (by decide +kernel) (by decide +kernel) (zmem_of (by decide +kernel)) (zmem_of (by decide +kernel)) (by decide +kernel) (by decide +kernel) (by decide +kernel) (by decide +kernel) (by decide +kernel) (by decide +kernel) (by decide +kernel) (by decide) (by decide) (by decide) (by decide) (h.2 fun hc => absurd h1 hc))
  · exact h.elim

def kX8_requireElement : List zI := [
  (0, 1, .iload_n 0, [], 0),
  (1, 3, .ifCond .ne 14, [15], 0),
  (4, 3, .new 317, [], 0),
  (7, 1, .dup, [], 0),
  (8, 3, .ldc_w 319, [], 0),
  (11, 3, .invokespecial 321, [], 0),
  (14, 1, .athrow, [], 0),
  (15, 1, .return_, [], 0)]
theorem kX8_requireElement_ok : kX8_requireElement.all (zck cX8_requireElement) = true := by decide +kernel

def rX8_requireElement : Room := { frames := 6, cells := 1, slots := 6, locals := 82 }
abbrev YX8_requireElement : zM := (RX8, cX8_requireElement, 1, none, rX8_requireElement, ULM, zlk fX8, zcs [] [])
theorem YX8_requireElement_ok : zYok (YX8_requireElement) := zYok_of fX8_ok znil znil

theorem mX8_requireElement : zMet (ULM) yX8_requireElement cX8_requireElement 1 (none) rX8_requireElement (sX8_requireElement) := by
  refine zmet (Y := YX8_requireElement) rfl (by decide +kernel) ?_
  intro av F ok ex h
  unfold sX8_requireElement at h
  split at h
  · rename_i b
    refine zgo_ok (YX8_requireElement_ok) (inv := zi1 4 (fun ls st kc ks G => zWP YX8_requireElement ok ex 4 ls st kc ks G)) (zone fun _ _ _ _ _ h => h) kX8_requireElement (List.all_eq_true.mp kX8_requireElement_ok) 0 _ _ _ _ _ ?_
    refine And.intro (fun h1 => h.1 h1) (fun h1 => ?_)
    exact (zthrow13 (Y := YX8_requireElement) (ik := 317) (is := 319) (ic := 321) (E := "java/util/NoSuchElementException") (E' := "java/lang/RuntimeException") (text := "there is no such element") (names := ["java/lang/Exception"]) (ix := 13) (bytes := prog_25_method_4_code) (by decide +kernel) (by decide +kernel) (by decide +kernel) (by decide +kernel) (by decide +kernel) (by decide +kernel) (by decide +kernel) (by decide +kernel) (zmem_of (by decide +kernel)) (zmem_of (by decide +kernel)) (by decide +kernel) (by decide +kernel) (by decide +kernel) (by decide +kernel) (by decide +kernel) (by decide +kernel) (by decide +kernel) (by decide) (by decide) (by decide) (by decide) (h.2 fun hc => absurd h1 hc))
  · exact h.elim

def kX8_refuseFor : List zI := [
  (0, 1, .iload_n 1, [], 0),
  (1, 3, .ifCond .eq 19, [20], 0),
  (4, 1, .aload_n 0, [], 0),
  (5, 1, .iload_n 1, [], 0),
  (6, 3, .putfield 44, [], 0),
  (9, 3, .new 322, [], 0),
  (12, 1, .dup, [], 0),
  (13, 3, .ldc_w 324, [], 0),
  (16, 3, .invokespecial 326, [], 0),
  (19, 1, .athrow, [], 0),
  (20, 1, .return_, [], 0)]
theorem kX8_refuseFor_ok : kX8_refuseFor.all (zck cX8_refuseFor) = true := by decide +kernel

def rX8_refuseFor : Room := { frames := 6, cells := 1, slots := 6, locals := 82 }
abbrev YX8_refuseFor : zM := (RX8, cX8_refuseFor, 2, none, rX8_refuseFor, ULM, zlk fX8, zcs [] [])
theorem YX8_refuseFor_ok : zYok (YX8_refuseFor) := zYok_of fX8_ok znil znil

theorem mX8_refuseFor : zMet (ULM) yX8_refuseFor cX8_refuseFor 2 (none) rX8_refuseFor (sX8_refuseFor) := by
  refine zmet (Y := YX8_refuseFor) rfl (by decide +kernel) ?_
  intro av F ok ex h
  unfold sX8_refuseFor at h
  split at h
  · rename_i y
    refine zgo_ok (YX8_refuseFor_ok) (inv := zi1 9 (fun ls st kc ks G => zWP YX8_refuseFor ok ex 9 ls st kc ks G)) (zone fun _ _ _ _ _ h => h) kX8_refuseFor (List.all_eq_true.mp kX8_refuseFor_ok) 0 _ _ _ _ _ ?_
    refine And.intro (fun h1 => h.1 h1) (fun h1 => ?_)
    exact (zthrow (Y := YX8_refuseFor) (ik := 322) (is := 324) (ic := 326) (E := "java/lang/UnsupportedOperationException") (text := "refused; refusal() tells the reason") (names := ["java/lang/RuntimeException", "java/lang/Exception"]) (by decide +kernel) (by decide +kernel) (by decide +kernel) (zmem_of (by decide +kernel)) (zmem_of (by decide +kernel)) (by decide +kernel) (by decide +kernel) (by decide +kernel) (by decide +kernel) (by decide +kernel) (by decide +kernel) (by decide +kernel) (by decide) (by decide) (by decide) (by decide) (h.2 h1))
  · exact h.elim

def kX8_refusalOfShips : List zI := [
  (0, 1, .aload_n 0, [], 0),
  (1, 3, .getfield 10, [], 0),
  (4, 3, .getfield 64, [], 0),
  (7, 3, .getfield 68, [], 0),
  (10, 1, .iload_n 1, [], 0),
  (11, 1, .iadd, [], 0),
  (12, 2, .bipush 16, [], 16),
  (14, 3, .if_icmp .le 5, [19], 0),
  (17, 1, .iconst 4, [], 4),
  (18, 1, .ireturn, [], 0),
  (19, 1, .aload_n 0, [], 0),
  (20, 3, .getfield 10, [], 0),
  (23, 3, .getfield 55, [], 0),
  (26, 3, .getfield 59, [], 0),
  (29, 1, .iconst 2, [], 2),
  (30, 3, .if_icmp .ge 7, [37], 0),
  (33, 1, .iconst 5, [], 5),
  (34, 3, .goto 4, [38], 0),
  (37, 1, .iconst 0, [], 0),
  (38, 1, .ireturn, [], 0)]
theorem kX8_refusalOfShips_ok : kX8_refusalOfShips.all (zck cX8_refusalOfShips) = true := by decide +kernel

def rX8_refusalOfShips : Room := { frames := 0, cells := 0, slots := 0, locals := 0 }
abbrev YX8_refusalOfShips : zM := (RX8, cX8_refusalOfShips, 2, some .int, rX8_refusalOfShips, ULM, zlk fX8, zcs [] [])
theorem YX8_refusalOfShips_ok : zYok (YX8_refusalOfShips) := zYok_of fX8_ok znil znil

theorem mX8_refusalOfShips : zMet (ULM) yX8_refusalOfShips cX8_refusalOfShips 2 (some .int) rX8_refusalOfShips (sX8_refusalOfShips) := by
  refine zmet (Y := YX8_refusalOfShips) rfl (by decide +kernel) ?_
  intro av F ok ex h
  unfold sX8_refusalOfShips at h
  split at h
  · rename_i m
    refine zgo_ok (YX8_refusalOfShips_ok) zno kX8_refusalOfShips (List.all_eq_true.mp kX8_refusalOfShips_ok) 0 _ _ _ _ _ ?_
    unfold aRS at h
    refine And.intro (fun h1 => ?_) (fun h1 => ?_)
    · rw [if_pos h1] at h
      refine And.intro (fun h2 => ?_) (fun h2 => ?_)
      · rw [if_neg (Int32.not_lt.mpr h2)] at h
        exact h
      · rw [if_pos (Int32.not_le.mp h2)] at h
        exact h
    · rw [if_neg h1] at h
      exact h
  · exact h.elim

def kX8_refusalOfJoin : List zI := [
  (0, 1, .aload_n 0, [], 0),
  (1, 3, .getfield 10, [], 0),
  (4, 3, .getfield 64, [], 0),
  (7, 1, .astore_n 3, [], 0),
  (8, 1, .aload_n 3, [], 0),
  (9, 1, .iload_n 1, [], 0),
  (10, 3, .invokevirtual 327, [], 0),
  (13, 3, .ifCond .eq 11, [24], 0),
  (16, 1, .aload_n 3, [], 0),
  (17, 1, .iload_n 2, [], 0),
  (18, 3, .invokevirtual 327, [], 0),
  (21, 3, .ifCond .ne 5, [26], 0),
  (24, 1, .iconst 1, [], 1),
  (25, 1, .ireturn, [], 0),
  (26, 1, .aload_n 3, [], 0),
  (27, 3, .getfield 197, [], 0),
  (30, 1, .iload_n 1, [], 0),
  (31, 3, .invokevirtual 107, [], 0),
  (34, 1, .aload_n 3, [], 0),
  (35, 3, .getfield 197, [], 0),
  (38, 1, .iload_n 2, [], 0),
  (39, 3, .invokevirtual 107, [], 0),
  (42, 3, .if_icmp .ne 5, [47], 0),
  (45, 1, .iconst 2, [], 2),
  (46, 1, .ireturn, [], 0),
  (47, 1, .aload_n 3, [], 0),
  (48, 1, .iload_n 1, [], 0),
  (49, 3, .invokevirtual 233, [], 0),
  (52, 3, .ifCond .ne 45, [97], 0),
  (55, 1, .aload_n 3, [], 0),
  (56, 3, .getfield 230, [], 0),
  (59, 1, .iload_n 1, [], 0),
  (60, 3, .invokevirtual 107, [], 0),
  (63, 1, .aload_n 3, [], 0),
  (64, 3, .getfield 230, [], 0),
  (67, 1, .iload_n 2, [], 0),
  (68, 3, .invokevirtual 107, [], 0),
  (71, 3, .if_icmp .ne 26, [97], 0),
  (74, 1, .aload_n 3, [], 0),
  (75, 3, .getfield 224, [], 0),
  (78, 1, .iload_n 1, [], 0),
  (79, 3, .invokevirtual 107, [], 0),
  (82, 1, .aload_n 3, [], 0),
  (83, 3, .getfield 224, [], 0),
  (86, 1, .iload_n 2, [], 0),
  (87, 3, .invokevirtual 107, [], 0),
  (90, 3, .if_icmp .ne 7, [97], 0),
  (93, 1, .iconst 1, [], 1),
  (94, 3, .goto 4, [98], 0),
  (97, 1, .iconst 0, [], 0),
  (98, 2, .istore 4, [], 0),
  (100, 2, .iload 4, [], 0),
  (102, 3, .ifCond .eq 7, [109], 0),
  (105, 1, .iconst 0, [], 0),
  (106, 3, .goto 4, [110], 0),
  (109, 1, .iconst 3, [], 3),
  (110, 1, .ireturn, [], 0)]
theorem kX8_refusalOfJoin_ok : kX8_refusalOfJoin.all (zck cX8_refusalOfJoin) = true := by decide +kernel

def rX8_refusalOfJoin : Room := { frames := 2, cells := 0, slots := 0, locals := 42 }
abbrev YX8_refusalOfJoin : zM := (RX8, cX8_refusalOfJoin, 5, some .int, rX8_refusalOfJoin, ULM, zlk fX8, zcs [(327, 2, 0, 0, zvs (ULM) 3 (sX3_has)), (107, 2, 0, 0, zvs (ULM) 7 (sU_at ULM)), (233, 2, 0, 0, zvs (ULM) 3 (sF_hasLeft))] [])
theorem YX8_refusalOfJoin_ok : zYok (YX8_refusalOfJoin) := zYok_of fX8_ok (zall (zcal_mono (zcalV (Y := YX8_refusalOfJoin) (y := yX3_has) (cc := cX3_has) (nL := 2) (ret := some .boolean) (rm := rX3_has) (uX3_has) 327 1 3 (T := TX3) rfl wX8_327 ⟨by decide +kernel, by decide +kernel, by decide +kernel⟩ (by decide) ⟨Nat.le_of_ble_eq_true rfl, Nat.le_of_ble_eq_true rfl⟩) (fun _ _ _ _ h => zvs_P h)) (zall (zcal_mono (zcalV (Y := YX8_refusalOfJoin) (y := yX7_at) (cc := cX7_at) (nL := 2) (ret := some .int) (rm := rX7_at) (mU_at ULM ULM_small) 107 1 7 (T := TX7) rfl wX8_107 ⟨by decide +kernel, by decide +kernel, by decide +kernel⟩ (by decide) ⟨Nat.le_of_ble_eq_true rfl, Nat.le_of_ble_eq_true rfl⟩) (fun _ _ _ _ h => zvs_P h)) (zall (zcal_mono (zcalV (Y := YX8_refusalOfJoin) (y := yX3_hasLeft) (cc := cX3_hasLeft) (nL := 2) (ret := some .boolean) (rm := rX3_hasLeft) (uF_hasLeft) 233 1 3 (T := TX3) rfl wX8_233 ⟨by decide +kernel, by decide +kernel, by decide +kernel⟩ (by decide) ⟨Nat.le_of_ble_eq_true rfl, Nat.le_of_ble_eq_true rfl⟩) (fun _ _ _ _ h => zvs_P h)) znil))) znil

theorem mX8_refusalOfJoin : zMet (ULM) yX8_refusalOfJoin cX8_refusalOfJoin 5 (some .int) rX8_refusalOfJoin (sX8_refusalOfJoin) := by
  refine zmet (Y := YX8_refusalOfJoin) rfl (by decide +kernel) ?_
  intro av F ok ex h
  unfold sX8_refusalOfJoin at h
  split at h
  · rename_i s t
    refine zgo_ok (YX8_refusalOfJoin_ok) zno kX8_refusalOfJoin (List.all_eq_true.mp kX8_refusalOfJoin_ok) 0 _ _ _ _ _ ?_
    unfold aRJ at h
    refine And.intro (fun hs => ?_) (fun hs => ?_)
    · refine And.intro (fun h0 => absurd h0 (by decide)) (fun _ => ?_)
      refine And.intro (fun ht => ?_) (fun ht => ?_)
      · refine And.intro (fun _ => ?_) (fun h0 => absurd h0 (by decide))
        rw [if_pos ⟨hs, ht⟩] at h
        refine And.intro (fun h1 => ?_) (fun h1 => ?_)
        · have h1 : ¬ qFi F s = qFi F t := h1
          rw [if_neg h1] at h
          refine And.intro (fun h2 => ?_) (fun h2 => ?_)
          · have h2 : qWa F s = -1 := h2
            rw [if_neg (fun hc => hc.1 h2)] at h
            refine And.intro (fun _ => ?_) (fun h0 => absurd h0 (by decide))
            refine And.intro (fun _ => ?_) (fun h0 => absurd rfl h0)
            exact h
          · have h2 : ¬ qWa F s = -1 := h2
            refine And.intro (fun h0 => absurd rfl h0) (fun _ => ?_)
            refine And.intro (fun h3 => ?_) (fun h3 => ?_)
            · have h3 : ¬ qWa F s = qWa F t := h3
              rw [if_neg (fun hc => h3 hc.2.1)] at h
              refine And.intro (fun _ => ?_) (fun h0 => absurd rfl h0)
              exact h
            · have h3 : qWa F s = qWa F t := h3
              refine And.intro (fun h4 => ?_) (fun h4 => ?_)
              · have h4 : ¬ qUp F s = qUp F t := h4
                rw [if_neg (fun hc => h4 hc.2.2)] at h
                refine And.intro (fun _ => ?_) (fun h0 => absurd rfl h0)
                exact h
              · have h4 : qUp F s = qUp F t := h4
                rw [if_pos ⟨h2, h3, h4⟩] at h
                refine And.intro (fun h0 => absurd h0 (by decide)) (fun _ => ?_)
                exact h
        · have h1 : qFi F s = qFi F t := h1
          rw [if_pos h1] at h
          exact h
      · refine And.intro (fun h0 => absurd rfl h0) (fun _ => ?_)
        rw [if_neg (fun hc => ht hc.2)] at h
        exact h
    · refine And.intro (fun _ => ?_) (fun h0 => absurd rfl h0)
      rw [if_neg (fun hc => hs hc.1)] at h
      exact h
  · exact h.elim

def kX8_refusalOfPart : List zI := [
  (0, 1, .aload_n 0, [], 0),
  (1, 3, .getfield 10, [], 0),
  (4, 3, .getfield 64, [], 0),
  (7, 1, .iload_n 1, [], 0),
  (8, 3, .invokevirtual 327, [], 0),
  (11, 3, .ifCond .ne 5, [16], 0),
  (14, 1, .iconst 1, [], 1),
  (15, 1, .ireturn, [], 0),
  (16, 1, .aload_n 0, [], 0),
  (17, 3, .getfield 10, [], 0),
  (20, 3, .getfield 64, [], 0),
  (23, 1, .iload_n 1, [], 0),
  (24, 3, .invokevirtual 203, [], 0),
  (27, 1, .iconst 1, [], 1),
  (28, 3, .if_icmp .ne 8, [36], 0),
  (31, 2, .bipush 6, [], 6),
  (33, 3, .goto 4, [37], 0),
  (36, 1, .iconst 0, [], 0),
  (37, 1, .ireturn, [], 0)]
theorem kX8_refusalOfPart_ok : kX8_refusalOfPart.all (zck cX8_refusalOfPart) = true := by decide +kernel

def rX8_refusalOfPart : Room := { frames := 2, cells := 0, slots := 0, locals := 44 }
abbrev YX8_refusalOfPart : zM := (RX8, cX8_refusalOfPart, 2, some .int, rX8_refusalOfPart, ULM, zlk fX8, zcs [(327, 2, 0, 0, zvs (ULM) 3 (sX3_has)), (203, 2, 0, 0, zvs (ULM) 3 (sX3_shipsInConvoy))] [])
theorem YX8_refusalOfPart_ok : zYok (YX8_refusalOfPart) := zYok_of fX8_ok (zall (zcal_mono (zcalV (Y := YX8_refusalOfPart) (y := yX3_has) (cc := cX3_has) (nL := 2) (ret := some .boolean) (rm := rX3_has) (uX3_has) 327 1 3 (T := TX3) rfl wX8_327 ⟨by decide +kernel, by decide +kernel, by decide +kernel⟩ (by decide) ⟨Nat.le_of_ble_eq_true rfl, Nat.le_of_ble_eq_true rfl⟩) (fun _ _ _ _ h => zvs_P h)) (zall (zcal_mono (zcalV (Y := YX8_refusalOfPart) (y := yX3_shipsInConvoy) (cc := cX3_shipsInConvoy) (nL := 4) (ret := some .int) (rm := rX3_shipsInConvoy) (uX3_shipsInConvoy) 203 1 3 (T := TX3) rfl wX8_203 ⟨by decide +kernel, by decide +kernel, by decide +kernel⟩ (by decide) ⟨Nat.le_of_ble_eq_true rfl, Nat.le_of_ble_eq_true rfl⟩) (fun _ _ _ _ h => zvs_P h)) znil)) znil

theorem mX8_refusalOfPart : zMet (ULM) yX8_refusalOfPart cX8_refusalOfPart 2 (some .int) rX8_refusalOfPart (sX8_refusalOfPart) := by
  refine zmet (Y := YX8_refusalOfPart) rfl (by decide +kernel) ?_
  intro av F ok ex h
  unfold sX8_refusalOfPart at h
  split at h
  · rename_i s
    refine zgo_ok (YX8_refusalOfPart_ok) zno kX8_refusalOfPart (List.all_eq_true.mp kX8_refusalOfPart_ok) 0 _ _ _ _ _ ?_
    unfold aRP at h
    refine And.intro (fun hs => ?_) (fun hs => ?_)
    · refine And.intro (fun _ => ?_) (fun h0 => absurd h0 (by decide))
      rw [if_pos hs] at h
      refine And.intro (fun h1 => ?_) (fun h1 => ?_)
      · rw [if_neg h1] at h
        exact h
      · rw [if_pos h1] at h
        exact h
    · refine And.intro (fun h0 => absurd rfl h0) (fun _ => ?_)
      rw [if_neg hs] at h
      exact h
  · exact h.elim

theorem z8_of {x : Int32} (h0 : ¬ x < 0) (h8 : x < 8) : ∃ k, k < 8 ∧ x = nI k := by
  obtain ⟨j, hj, rfl⟩ := nI_of h0
  have h9 : nI j < nI 8 := h8
  exact ⟨j, (nI_ltI hj (by decide)).mp h9, rfl⟩
theorem z8_lo : ∀ k, k < 8 → ¬ nI k < 0 := by decide
theorem z8_hi : ∀ k, k < 8 → nI k < 8 := by decide
theorem z8_slot : ∀ k, k < 8 → znth (ULM.2 497).2.2 (nI k).toNatClampNeg = some (some (135 + 45 * k)) := by decide +kernel
theorem z8_or {k : Nat} (h : k < 8) : k = 0 ∨ k = 1 ∨ k = 2 ∨ k = 3 ∨ k = 4 ∨ k = 5 ∨ k = 6 ∨ k = 7 := by omega
theorem zcp_out (F : zF) (j i : Nat) {a : Nat} (h : a < j ∨ j + 45 ≤ a) : zcp F j i a = F a := by
  unfold zcp
  rw [if_neg (by omega)]

def kX2_newestKept : List zI := [
  (0, 1, .aload_n 0, [], 0),
  (1, 3, .getfield 17, [], 0),
  (4, 3, .ifCond .lt 15, [19], 0),
  (7, 1, .aload_n 0, [], 0),
  (8, 3, .getfield 17, [], 0),
  (11, 1, .aload_n 0, [], 0),
  (12, 3, .getfield 11, [], 0),
  (15, 1, .arraylength, [], 0),
  (16, 3, .if_icmp .lt 7, [23], 0),
  (19, 1, .aconst_null, [], 0),
  (20, 3, .goto 12, [32], 0),
  (23, 1, .aload_n 0, [], 0),
  (24, 3, .getfield 11, [], 0),
  (27, 1, .aload_n 0, [], 0),
  (28, 3, .getfield 17, [], 0),
  (31, 1, .aaload, [], 0),
  (32, 1, .areturn, [], 0)]
theorem kX2_newestKept_ok : kX2_newestKept.all (zck cX2_newestKept) = true := by decide +kernel

def rX2_newestKept : Room := { frames := 0, cells := 0, slots := 0, locals := 0 }
abbrev YX2_newestKept : zM := (RX2, cX2_newestKept, 1, some (.object "LockMaster$Canal"), rX2_newestKept, ULM, zlk fX2, zcs [] [])
theorem YX2_newestKept_ok : zYok (YX2_newestKept) := zYok_of fX2_ok znil znil

theorem mX2_newestKept : zMet (ULM) yX2_newestKept cX2_newestKept 1 (some (.object "LockMaster$Canal")) rX2_newestKept (sX2_newestKept) := by
  refine zmet (Y := YX2_newestKept) rfl (by decide +kernel) ?_
  intro av F ok ex h
  unfold sX2_newestKept at h
  split at h
  · refine zgo_ok (YX2_newestKept_ok) zno kX2_newestKept (List.all_eq_true.mp kX2_newestKept_ok) 0 _ _ _ _ _ ?_
    obtain ⟨kk, hk, he, h⟩ := h
    have h3 : ¬ F 496 1 < 0 := by rw [he]; exact z8_lo kk hk
    have h4 : F 496 1 < 8 := by rw [he]; exact z8_hi kk hk
    refine And.intro (fun h1 => absurd h1 h3) (fun h1 => ?_)
    refine And.intro (fun h2 => ?_) (fun h2 => absurd h4 h2)
    refine Exists.intro (vp_in_lt (by decide) h1 h2) ?_
    refine ⟨135 + 45 * kk, ?_, h⟩
    show znth (ULM.2 497).2.2 (F 496 1).toNatClampNeg = some (some (135 + 45 * kk))
    rw [he]
    exact z8_slot kk hk
  · exact h.elim

def kX2_keep : List zI := [
  (0, 1, .aload_n 0, [], 0),
  (1, 1, .aload_n 0, [], 0),
  (2, 3, .getfield 17, [], 0),
  (5, 1, .iconst 1, [], 1),
  (6, 1, .iadd, [], 0),
  (7, 1, .aload_n 0, [], 0),
  (8, 3, .getfield 11, [], 0),
  (11, 1, .arraylength, [], 0),
  (12, 3, .if_icmp .ge 12, [24], 0),
  (15, 1, .aload_n 0, [], 0),
  (16, 3, .getfield 17, [], 0),
  (19, 1, .iconst 1, [], 1),
  (20, 1, .iadd, [], 0),
  (21, 3, .goto 4, [25], 0),
  (24, 1, .iconst 0, [], 0),
  (25, 3, .putfield 17, [], 0),
  (28, 1, .aload_n 0, [], 0),
  (29, 1, .aload_n 0, [], 0),
  (30, 3, .getfield 21, [], 0),
  (33, 1, .iconst 1, [], 1),
  (34, 1, .iadd, [], 0),
  (35, 2, .bipush 8, [], 8),
  (37, 3, .invokestatic 25, [], 0),
  (40, 3, .putfield 21, [], 0),
  (43, 1, .aload_n 0, [], 0),
  (44, 3, .invokevirtual 31, [], 0),
  (47, 1, .astore_n 2, [], 0),
  (48, 1, .aload_n 2, [], 0),
  (49, 3, .ifnull 8, [57], 0),
  (52, 1, .aload_n 2, [], 0),
  (53, 1, .aload_n 1, [], 0),
  (54, 3, .invokevirtual 35, [], 0),
  (57, 1, .return_, [], 0)]
theorem kX2_keep_ok : kX2_keep.all (zck cX2_keep) = true := by decide +kernel

def rX2_keep : Room := { frames := 4, cells := 0, slots := 0, locals := 85 }
abbrev YX2_keep : zM := (RX2, cX2_keep, 3, none, rX2_keep, ULM, zlk fX2, zcs [(31, 1, 0, 0, zvs (ULM) 2 (sX2_newestKept)), (35, 2, 0, 0, zvs (ULM) 1 (sL_copyFrom))] [(25, 2, 0, 0, sJ9_min_7cf53)])
theorem YX2_keep_ok : zYok (YX2_keep) := zYok_of fX2_ok (zall (zcal_mono (zcalV (Y := YX2_keep) (y := yX2_newestKept) (cc := cX2_newestKept) (nL := 1) (ret := some (.object "LockMaster$Canal")) (rm := rX2_newestKept) (mX2_newestKept) 31 0 2 (T := TX2) rfl wX2_31 ⟨by decide +kernel, by decide +kernel, by decide +kernel⟩ (by decide) ⟨Nat.le_of_ble_eq_true rfl, Nat.le_of_ble_eq_true rfl⟩) (fun _ _ _ _ h => zvs_P h)) (zall (zcal_mono (zcalV (Y := YX2_keep) (y := yX1_copyFrom) (cc := cX1_copyFrom) (nL := 2) (ret := none) (rm := rX1_copyFrom) (uL_copyFrom) 35 1 1 (T := TX1) rfl wX2_35 ⟨by decide +kernel, by decide +kernel, by decide +kernel⟩ (by decide) ⟨Nat.le_of_ble_eq_true rfl, Nat.le_of_ble_eq_true rfl⟩) (fun _ _ _ _ h => zvs_P h)) znil)) (zall (zcalS (Y := YX2_keep) (y := yJ9_min_7cf53) (cc := cJ9_min_7cf53) (nL := 2) (ret := some .int) (rm := rJ9_min_7cf53) (mJ9_min_7cf53 ULM) 25 2 wX2_25 ⟨by decide +kernel, by decide +kernel, by decide +kernel⟩ (by decide) ⟨Nat.le_of_ble_eq_true rfl, Nat.le_of_ble_eq_true rfl⟩) znil)

theorem mX2_keep : zMet (ULM) yX2_keep cX2_keep 3 (none) rX2_keep (sX2_keep) := by
  refine zmet (Y := YX2_keep) rfl (by decide +kernel) ?_
  intro av F ok ex h
  unfold sX2_keep at h
  split at h
  · refine zgo_ok (YX2_keep_ok) zno kX2_keep (List.all_eq_true.mp kX2_keep_ok) 0 _ _ _ _ _ ?_
    obtain ⟨kk, hk, he, h⟩ := h
    refine And.intro (fun h1 => ?_) (fun h1 => ?_)
    · have h3 : aNew F = (0 : Int32) := if_neg (Int32.not_lt.mpr h1)
      have h5 : aKp F = zup (zup F 496 1 ((0 : Int32))) 496 2 (imin (F 496 2 + 1) 8) := by unfold aKp; rw [h3]
      rw [h3] at he
      rw [h5] at h
      refine ⟨kk, hk, he, ?_⟩
      rcases z8_or hk with rfl | rfl | rfl | rfl | rfl | rfl | rfl | rfl <;> exact h
    · have h3 : aNew F = F 496 1 + 1 := if_pos (Int32.not_le.mp h1)
      have h5 : aKp F = zup (zup F 496 1 (F 496 1 + 1)) 496 2 (imin (F 496 2 + 1) 8) := by unfold aKp; rw [h3]
      rw [h3] at he
      rw [h5] at h
      refine ⟨kk, hk, he, ?_⟩
      rcases z8_or hk with rfl | rfl | rfl | rfl | rfl | rfl | rfl | rfl <;> exact h
  · exact h.elim

def kX2_takeBack : List zI := [
  (0, 1, .aload_n 0, [], 0),
  (1, 3, .invokevirtual 31, [], 0),
  (4, 1, .astore_n 2, [], 0),
  (5, 1, .aload_n 2, [], 0),
  (6, 3, .ifnull 8, [14], 0),
  (9, 1, .aload_n 1, [], 0),
  (10, 1, .aload_n 2, [], 0),
  (11, 3, .invokevirtual 35, [], 0),
  (14, 1, .aload_n 0, [], 0),
  (15, 1, .aload_n 0, [], 0),
  (16, 3, .getfield 17, [], 0),
  (19, 3, .ifCond .le 12, [31], 0),
  (22, 1, .aload_n 0, [], 0),
  (23, 3, .getfield 17, [], 0),
  (26, 1, .iconst 1, [], 1),
  (27, 1, .isub, [], 0),
  (28, 3, .goto 10, [38], 0),
  (31, 1, .aload_n 0, [], 0),
  (32, 3, .getfield 11, [], 0),
  (35, 1, .arraylength, [], 0),
  (36, 1, .iconst 1, [], 1),
  (37, 1, .isub, [], 0),
  (38, 3, .putfield 17, [], 0),
  (41, 1, .aload_n 0, [], 0),
  (42, 1, .dup, [], 0),
  (43, 3, .getfield 21, [], 0),
  (46, 1, .iconst 1, [], 1),
  (47, 1, .isub, [], 0),
  (48, 3, .putfield 21, [], 0),
  (51, 1, .return_, [], 0)]
theorem kX2_takeBack_ok : kX2_takeBack.all (zck cX2_takeBack) = true := by decide +kernel

def rX2_takeBack : Room := { frames := 4, cells := 0, slots := 0, locals := 85 }
abbrev YX2_takeBack : zM := (RX2, cX2_takeBack, 3, none, rX2_takeBack, ULM, zlk fX2, zcs [(31, 1, 0, 0, zvs (ULM) 2 (sX2_newestKept)), (35, 2, 0, 0, zvs (ULM) 1 (sL_copyFrom))] [])
theorem YX2_takeBack_ok : zYok (YX2_takeBack) := zYok_of fX2_ok (zall (zcal_mono (zcalV (Y := YX2_takeBack) (y := yX2_newestKept) (cc := cX2_newestKept) (nL := 1) (ret := some (.object "LockMaster$Canal")) (rm := rX2_newestKept) (mX2_newestKept) 31 0 2 (T := TX2) rfl wX2_31 ⟨by decide +kernel, by decide +kernel, by decide +kernel⟩ (by decide) ⟨Nat.le_of_ble_eq_true rfl, Nat.le_of_ble_eq_true rfl⟩) (fun _ _ _ _ h => zvs_P h)) (zall (zcal_mono (zcalV (Y := YX2_takeBack) (y := yX1_copyFrom) (cc := cX1_copyFrom) (nL := 2) (ret := none) (rm := rX1_copyFrom) (uL_copyFrom) 35 1 1 (T := TX1) rfl wX2_35 ⟨by decide +kernel, by decide +kernel, by decide +kernel⟩ (by decide) ⟨Nat.le_of_ble_eq_true rfl, Nat.le_of_ble_eq_true rfl⟩) (fun _ _ _ _ h => zvs_P h)) znil)) znil

theorem mX2_takeBack : zMet (ULM) yX2_takeBack cX2_takeBack 3 (none) rX2_takeBack (sX2_takeBack) := by
  refine zmet (Y := YX2_takeBack) rfl (by decide +kernel) ?_
  intro av F ok ex h
  unfold sX2_takeBack at h
  split at h
  · refine zgo_ok (YX2_takeBack_ok) zno kX2_takeBack (List.all_eq_true.mp kX2_takeBack_ok) 0 _ _ _ _ _ ?_
    obtain ⟨kk, hk, he, h⟩ := h
    refine ⟨kk, hk, he, ?_⟩
    rcases z8_or hk with rfl | rfl | rfl | rfl | rfl | rfl | rfl | rfl
    all_goals
      refine And.intro (fun h1 => ?_) (fun h1 => ?_)
      · have h2 : aOld F = 7 := if_neg (Int32.not_lt.mpr h1)
        unfold aTb at h
        rw [h2] at h
        exact h
      · have h2 : aOld F = F 496 1 - 1 := if_pos (Int32.not_le.mp h1)
        unfold aTb at h
        rw [h2] at h
        exact h
  · exact h.elim

def kX2_forget : List zI := [
  (0, 1, .aload_n 0, [], 0),
  (1, 1, .iconst 0, [], 0),
  (2, 3, .putfield 21, [], 0),
  (5, 1, .return_, [], 0)]
theorem kX2_forget_ok : kX2_forget.all (zck cX2_forget) = true := by decide +kernel

def rX2_forget : Room := { frames := 0, cells := 0, slots := 0, locals := 0 }
abbrev YX2_forget : zM := (RX2, cX2_forget, 1, none, rX2_forget, ULM, zlk fX2, zcs [] [])
theorem YX2_forget_ok : zYok (YX2_forget) := zYok_of fX2_ok znil znil

theorem mX2_forget : zMet (ULM) yX2_forget cX2_forget 1 (none) rX2_forget (sX2_forget) := by
  refine zmet (Y := YX2_forget) rfl (by decide +kernel) ?_
  intro av F ok ex h
  unfold sX2_forget at h
  split at h
  · refine zgo_ok (YX2_forget_ok) zno kX2_forget (List.all_eq_true.mp kX2_forget_ok) 0 _ _ _ _ _ ?_
    exact h
  · exact h.elim

end ZL1
