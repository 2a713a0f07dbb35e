/-! LockMaster's own methods, in its world -/
section ZL2
set_option maxRecDepth 20000
abbrev xI : String := "java/lang/IndexOutOfBoundsException"
abbrev xA : String := "java/lang/IllegalArgumentException"
abbrev xS : String := "java/lang/IllegalStateException"
abbrev xE : String := "java/util/NoSuchElementException"
abbrev xU : String := "java/lang/UnsupportedOperationException"
abbrev xR : String := "java/lang/ArithmeticException"
theorem zreq1 {A B : Prop} (h : A) : (¬ (1 : Int32) = 0 → A) ∧ (¬ ¬ (1 : Int32) = 0 → B) := ⟨fun _ => h, fun h0 => absurd (by decide) h0⟩
theorem zreq0 {A B : Prop} (h : B) : (¬ (0 : Int32) = 0 → A) ∧ (¬ ¬ (0 : Int32) = 0 → B) := ⟨fun h0 => absurd rfl h0, fun _ => h⟩
theorem zjne1 {A B : Prop} (h : A) : (¬ (1 : Int32) = 0 → A) ∧ ((1 : Int32) = 0 → B) := ⟨fun _ => h, fun h0 => absurd h0 (by decide)⟩
theorem zjne0 {A B : Prop} (h : B) : (¬ (0 : Int32) = 0 → A) ∧ ((0 : Int32) = 0 → B) := ⟨fun h0 => absurd rfl h0, fun _ => h⟩
theorem zjeq1 {A B : Prop} (h : B) : ((1 : Int32) = 0 → A) ∧ (¬ (1 : Int32) = 0 → B) := ⟨fun h0 => absurd h0 (by decide), fun _ => h⟩
theorem zjeq0 {A B : Prop} (h : A) : ((0 : Int32) = 0 → A) ∧ (¬ (0 : Int32) = 0 → B) := ⟨fun _ => h, fun h0 => absurd rfl h0⟩
/-- refused, or not -/
def zrf (y : Int32) (F : zF) (ex : zX) (A : Prop) : Prop := (y = 0 → A) ∧ (¬ y = 0 → ex xU (zup F 495 7 y))
/-- a change: what was is kept before -/
def zkp (F : zF) (A : zF → Prop) : Prop := ∃ k, k < 8 ∧ aNew F = nI k ∧ A (zcp (aKp F) (135 + 45 * k) 0)
theorem zkp_and {F : zF} {A : zF → Prop} (h : zkp F A) : ∃ k, k < 8 ∧ aNew F = nI k ∧ A (zcp (aKp F) (135 + 45 * k) 0) := h

def aReach (F : zF) (r w : Int32) : Int32 := if w = 0 then qA F r else if w = 1 then qN F r else if w = 2 then qW F r else if w = 3 then qLev F r else if w = 4 then qDry F r else qSir F r (F 25 9).toNatClampNeg
def aLock (F : zF) (r w : Int32) : Int32 := if w = 0 then zrd 4 (F 10) r else if w = 1 then zrd 4 (F 12) r else if w = 2 then zrd 4 (F 16) r else if w = 3 then zrd 4 (F 14) r else if w = 4 then zrd 4 (F 18) r else if w = 5 then zrd 4 (F 20) r else if w = 6 then qWin F r else if w = 7 then qCva F r (F 25 9).toNatClampNeg else if w = 8 then zrd 4 (F 22) r else zrd 4 (F 24) r
def aShip (F : zF) (r w : Int32) : Int32 := if w = 0 then zrd 16 (F 27) r else if w = 1 then zrd 16 (F 29) r else if w = 2 then zrd 16 (F 31) r else if w = 3 then zrd 16 (F 33) r else if w = 4 then qRe F r else if w = 5 then qWa F r else if w = 6 then (if qWa F r = -1 then 0 else qWt F r) else if w = 7 then qFi F r else if w = 8 then qSIC F r else zrd 16 (F 39) r
def aAcc (F : zF) (w : Int32) : Int32 := if w = 0 then F 1 3 else if w = 1 then F 25 9 else if w = 2 then qSir F (-1) (F 25 9).toNatClampNeg else if w = 3 then qWcv F (F 8 9).toNatClampNeg else if w = 4 then zsum (F 7) 5 else if w = 5 then qAllW F (F 8 9).toNatClampNeg else if w = 6 then F 0 8 else if w = 7 then F 0 9 else if w = 8 then zsum (F 24) 4 else if w = 9 then F 8 8 else F 0 10
def aMkR (F : zF) (a l : Int32) : zF := zup (zwr 5 (zwr 5 (zwr 5 (zup F 0 10 (F 0 10 + a * l)) 3 (F 1 3) a) 5 (F 1 3) l) 7 (F 1 3) (a * l)) 1 3 (F 1 3 + 1)
def aAddL (p : Bool) (G : zF) (n m b : Int32) : zF := match p with
  | true => qMkL G n m b
  | false => G
def aSetV (F : zF) (s : Int32) : Int32 := if s = 0 then F 0 4 else if s = 1 then F 0 5 else F 0 6
def aSetF (F : zF) (s v : Int32) : zF := if s = 0 then zup F 0 4 v else if s = 1 then zup F 0 5 v else zup F 0 6 v
def aArr (G : zF) : Nat → zF
  | 0 => G
  | i + 1 => qMkC (aArr G i) (zrd 10 (aArr G i 502) (nI i)) (zrd 10 (aArr G i 504) (nI i)) (zrd 10 (aArr G i 506) (nI i)) (if zrd 10 (aArr G i 508) (nI i) = 1 then 1 else 0)
def aTicks (G : zF) : Nat → zF
  | 0 => G
  | i + 1 => qOT (aTicks G i)
def aFt (G : zF) : zF := spl 45 45 G (qOT (vw 45 G))
def aFc (s : Int32) : Nat → Nat → zF → Nat × zF
  | 0, n, G => (n, G)
  | d + 1, n, G => if G 45 7 < 500 ∧ ¬ qWa (vw 45 G) s = -1 then aFc s d (n + 1) (aFt G) else (n, G)

def sX8_addReach : zSp := fun as F ok ex => match as with
  | [.ref 495, .int a, .int l, .int n, .int m, .int b] => zfo ((1 ≤ a ∧ a ≤ 9) ∧ (10 ≤ l ∧ l ≤ 99)) xA F ex (zfo (0 < F 1 3 → (1 ≤ n ∧ n ≤ 9) ∧ (4 ≤ m ∧ m ≤ 60) ∧ (0 ≤ b ∧ b ≤ 3)) xA F ex (zfo (F 1 3 < 5 ∧ F 25 9 = 0) xS F ex (zkp F fun G => ok (some (.int (aAddL (decide (0 < F 1 3)) G n m b 1 3))) (aMkR (aAddL (decide (0 < F 1 3)) G n m b) a l))))
  | _ => False
def sX8_set : zSp := fun as F ok ex => match as with
  | [.ref 495, .int s, .int v] => zfo (0 ≤ s ∧ s < 3) xI F ex (zfo ((if s = 0 then 1 else 0) ≤ v ∧ v ≤ aMost s) xA F ex (zkp F fun G => ok (some (.int (aSetV G s))) (aSetF G s v)))
  | _ => False
def sX8_reach : zSp := fun as F ok ex => match as with
  | [.ref 495, .int r, .int w] => zfo (0 ≤ r ∧ r < F 1 3) xI F ex (zfo (0 ≤ w ∧ w ≤ 5) xA F ex (ok (some (.int (aReach F r w))) (F)))
  | _ => False
def sX8_lock : zSp := fun as F ok ex => match as with
  | [.ref 495, .int r, .int w] => zfo (0 ≤ r ∧ r < F 8 9) xI F ex (zfo (0 ≤ w ∧ w ≤ 9) xA F ex (ok (some (.int (aLock F r w))) (F)))
  | _ => False
def sX8_addShip : zSp := fun as F ok ex => match as with
  | [.ref 495, .int s, .int d, .int r, .int b] => zfo ((1 ≤ s ∧ s ≤ 9) ∧ (1 ≤ d ∧ d ≤ 99) ∧ (0 ≤ r ∧ r ≤ 3)) xA F ex (zrf (aRS F 1) F ex (zkp F fun G => ok (some (.int (G 25 9))) (qMkC G s d r b)))
  | _ => False
def sX8_append : zSp := fun as F ok ex => match as with
  | [.ref 495, .int c] => zfo (F 498 5 < 50) xS F ex (ok none (spl 498 11 F (xPut (vw 498 F) c)))
  | _ => False
def aArR (F : zF) : zF := zup (zup (spl 498 11 F (xRead (vw 498 F)).2) 495 6 (xRead (vw 498 F)).1) 498 5 0
def sX8_arrive : zSp := fun as F ok ex => match as with
  | [.ref 495] => zfo ((xRead (vw 498 F)).1 = -1) xA (aArR F) ex (zrf (aRS (aArR F) (aArR F 498 6)) (aArR F) ex (zkp (aArR F) fun G => ok (some (.int (aArR F 498 6))) (aArr G (aArR F 498 6).toNatClampNeg)))
  | _ => False
def sX8_faultPosition : zSp := fun as F ok ex => match as with
  | [.ref 495] => ok (some (.int (F 495 6))) (F)
  | _ => False
def sX8_join : zSp := fun as F ok ex => match as with
  | [.ref 495, .int s, .int t] => zrf (aRJ F s t) F ex (zkp F fun G => ok (some (.int (qSIC (qJn G (qFi G t) (qFi G s)) t))) (qJn G (qFi G t) (qFi G s)))
  | _ => False
def sX8_part : zSp := fun as F ok ex => match as with
  | [.ref 495, .int s] => zrf (aRP F s) F ex (zkp F fun G => ok (some (.int (qSIC G s - 1))) (qTk G s))
  | _ => False
def sX8_refusal : zSp := fun as F ok ex => match as with
  | [.ref 495] => zfo (¬ F 495 7 = 0) xE F ex (ok (some (.int (F 495 7))) (F))
  | _ => False
def sX8_ship : zSp := fun as F ok ex => match as with
  | [.ref 495, .int r, .int w] => zfo (0 ≤ r ∧ r < F 25 9) xI F ex (zfo (0 ≤ w ∧ w ≤ 9) xA F ex (ok (some (.int (aShip F r w))) (F)))
  | _ => False
def sX8_convoy : zSp := fun as F ok ex => match as with
  | [.ref 495, .int s, .int x] => zfo (0 ≤ s ∧ s < F 25 9) xI F ex (zfo (¬ qSOC F s x = -1) xE F ex (ok (some (.int (qSOC F s x))) (F)))
  | _ => False
def sX8_waiting : zSp := fun as F ok ex => match as with
  | [.ref 495, .int l, .int x] => zfo (0 ≤ l ∧ l < F 8 9) xI F ex (zfo (¬ qCIO F l x (F 25 9).toNatClampNeg 0 = -1) xE F ex (ok (some (.int (qCIO F l x (F 25 9).toNatClampNeg 0))) (F)))
  | _ => False
def sX8_priority : zSp := fun as F ok ex => match as with
  | [.ref 495, .int s] => zfo (0 ≤ s ∧ s < F 25 9) xI F ex (zfo (¬ qWa F s = -1) xS F ex (ok (some (.int (qPr F (qFi F s)))) (F)))
  | _ => False
def aHi (F : zF) (i : Int32) : zF := qLook F i (qLen F (qWa F i))
def sX8_hindrance : zSp := fun as F ok ex => match as with
  | [.ref 495, .int s] => zfo (0 ≤ s ∧ s < F 25 9) xI F ex (zfo (¬ qWa F s = -1) xS F ex (ok (some (.int (qHO F (aHi F (qFi F s)) (qFi F s)))) (aHi F (qFi F s))))
  | _ => False
def sX8_pass : zSp := fun as F ok ex => match as with
  | [.ref 495, .int n] => zfo ((1 ≤ n ∧ n ≤ 40) ∧ n ≤ 500 - F 0 7) xA F ex (zfo (2 ≤ F 1 3) xS F ex (zkp F fun G => ok (some (.int (qSir (aTicks G n.toNatClampNeg) (-1) (aTicks G n.toNatClampNeg 25 9).toNatClampNeg - qSir G (-1) (G 25 9).toNatClampNeg))) (aTicks G n.toNatClampNeg)))
  | _ => False
def sX8_tick : zSp := fun as F ok ex => match as with
  | [.ref 495] => ok (some (.int (F 0 7))) (F)
  | _ => False
def sX8_untilLeft : zSp := fun as F ok ex => match as with
  | [.ref 495, .int s, .int n] => zfo (0 ≤ s ∧ s < F 25 9) xI F ex (zfo (1 ≤ n ∧ n ≤ 40) xA F ex (zfo (¬ qWa F s = -1) xS F ex (zfo (qWa (vw 45 (aFc s n.toNatClampNeg 0 (zcp F 45 0)).2) s = -1) xE (aFc s n.toNatClampNeg 0 (zcp F 45 0)).2 ex (ok (some (.int (nI (aFc s n.toNatClampNeg 0 (zcp F 45 0)).1))) ((aFc s n.toNatClampNeg 0 (zcp F 45 0)).2)))))
  | _ => False
def sX8_account : zSp := fun as F ok ex => match as with
  | [.ref 495, .int w] => zfo (0 ≤ w ∧ w ≤ 10) xA F ex (ok (some (.int (aAcc F w))) (F))
  | _ => False
def sX8_meanLocked : zSp := fun as F ok ex => match as with
  | [.ref 495] => zfo (¬ zsum (F 24) 4 = 0) xR F ex (∃ _ : vf_n64 (FP.ddiv (FP.i2d (zsum (F 22) 4)) (FP.i2d (zsum (F 24) 4))), ok (some (.double (FP.ddiv (FP.i2d (zsum (F 22) 4)) (FP.i2d (zsum (F 24) 4))))) F)
  | _ => False
def sX8_undo : zSp := fun as F ok ex => match as with
  | [.ref 495] => zfo (0 < F 496 2) xS F ex (∃ k, k < 8 ∧ F 496 1 = nI k ∧ ok (some (.int (F 496 2 - 1))) (aTb F (zcp F 0 (135 + 45 * k))))
  | _ => False
def sX8_save : zSp := fun as F ok ex => match as with
  | [.ref 495] => ok none (zup (zcp F 90 0) 495 5 1)
  | _ => False
def sX8_restore : zSp := fun as F ok ex => match as with
  | [.ref 495] => zfo (¬ F 495 5 = 0) xS F ex (ok none (zup (zcp F 0 90) 496 2 0))
  | _ => False
def kX8_reach : List zI := [
  (0, 1, .iload_n 1, [], 0),
  (1, 1, .aload_n 0, [], 0),
  (2, 3, .getfield 10, [], 0),
  (5, 3, .getfield 55, [], 0),
  (8, 3, .getfield 59, [], 0),
  (11, 3, .invokestatic 92, [], 0),
  (14, 1, .iload_n 2, [], 0),
  (15, 1, .iconst 0, [], 0),
  (16, 1, .iconst 5, [], 5),
  (17, 3, .invokestatic 47, [], 0),
  (20, 3, .invokestatic 51, [], 0),
  (23, 1, .iload_n 2, [], 0),
  (24, 36, .tableswitch 105 0 4 #[36, 51, 66, 81, 93], [129, 60, 75, 90, 105, 117], 0),
  (60, 1, .aload_n 0, [], 0),
  (61, 3, .getfield 10, [], 0),
  (64, 3, .getfield 55, [], 0),
  (67, 3, .getfield 103, [], 0),
  (70, 1, .iload_n 1, [], 0),
  (71, 3, .invokevirtual 107, [], 0),
  (74, 1, .ireturn, [], 0),
  (75, 1, .aload_n 0, [], 0),
  (76, 3, .getfield 10, [], 0),
  (79, 3, .getfield 55, [], 0),
  (82, 3, .getfield 112, [], 0),
  (85, 1, .iload_n 1, [], 0),
  (86, 3, .invokevirtual 107, [], 0),
  (89, 1, .ireturn, [], 0),
  (90, 1, .aload_n 0, [], 0),
  (91, 3, .getfield 10, [], 0),
  (94, 3, .getfield 55, [], 0),
  (97, 3, .getfield 115, [], 0),
  (100, 1, .iload_n 1, [], 0),
  (101, 3, .invokevirtual 107, [], 0),
  (104, 1, .ireturn, [], 0),
  (105, 1, .aload_n 0, [], 0),
  (106, 3, .getfield 10, [], 0),
  (109, 3, .getfield 55, [], 0),
  (112, 1, .iload_n 1, [], 0),
  (113, 3, .invokevirtual 118, [], 0),
  (116, 1, .ireturn, [], 0),
  (117, 1, .aload_n 0, [], 0),
  (118, 3, .getfield 10, [], 0),
  (121, 3, .getfield 55, [], 0),
  (124, 1, .iload_n 1, [], 0),
  (125, 3, .invokevirtual 121, [], 0),
  (128, 1, .ireturn, [], 0),
  (129, 1, .aload_n 0, [], 0),
  (130, 3, .getfield 10, [], 0),
  (133, 3, .getfield 64, [], 0),
  (136, 1, .iload_n 1, [], 0),
  (137, 3, .invokevirtual 124, [], 0),
  (140, 1, .ireturn, [], 0)]
theorem kX8_reach_ok : kX8_reach.all (zck cX8_reach) = true := by decide +kernel

def rX8_reach : Room := { frames := 7, cells := 2, slots := 12, locals := 103 }
abbrev YX8_reach : zM := (RX8, cX8_reach, 3, some .int, rX8_reach, ULM, zlk fX8, zcs [(107, 2, 0, 0, zvs (ULM) 7 (sU_at ULM)), (118, 2, 0, 0, zvs (ULM) 6 (sX6_levelOf)), (121, 2, 0, 0, zvs (ULM) 6 (sX6_drynessOf)), (124, 2, 0, 0, zvs (ULM) 3 (sX3_shipsInReach))] [(92, 2, 1, 6, sX8_requireIndex), (47, 3, 0, 0, sX8_isWithin), (51, 1, 1, 6, sX8_requireArgument)])
theorem YX8_reach_ok : zYok (YX8_reach) := zYok_of fX8_ok (zall (zcal_mono (zcalV (Y := YX8_reach) (y := yX7_at) (cc := cX7_at) (nL := 2) (ret := some .int) (rm := rX7_at) (mU_at ULM ULM_small) 107 1 7 (T := TX7) rfl wX8_107 ⟨by decide +kernel, by decide +kernel, by decide +kernel⟩ (by decide) ⟨Nat.le_of_ble_eq_true rfl, Nat.le_of_ble_eq_true rfl⟩) (fun _ _ _ _ h => zvs_P h)) (zall (zcal_mono (zcalV (Y := YX8_reach) (y := yX6_levelOf) (cc := cX6_levelOf) (nL := 3) (ret := some .int) (rm := rX6_levelOf) (uX6_levelOf) 118 1 6 (T := TX6) rfl wX8_118 ⟨by decide +kernel, by decide +kernel, by decide +kernel⟩ (by decide) ⟨Nat.le_of_ble_eq_true rfl, Nat.le_of_ble_eq_true rfl⟩) (fun _ _ _ _ h => zvs_P h)) (zall (zcal_mono (zcalV (Y := YX8_reach) (y := yX6_drynessOf) (cc := cX6_drynessOf) (nL := 3) (ret := some .int) (rm := rX6_drynessOf) (uX6_drynessOf) 121 1 6 (T := TX6) rfl wX8_121 ⟨by decide +kernel, by decide +kernel, by decide +kernel⟩ (by decide) ⟨Nat.le_of_ble_eq_true rfl, Nat.le_of_ble_eq_true rfl⟩) (fun _ _ _ _ h => zvs_P h)) (zall (zcal_mono (zcalV (Y := YX8_reach) (y := yX3_shipsInReach) (cc := cX3_shipsInReach) (nL := 4) (ret := some .int) (rm := rX3_shipsInReach) (uX3_shipsInReach) 124 1 3 (T := TX3) rfl wX8_124 ⟨by decide +kernel, by decide +kernel, by decide +kernel⟩ (by decide) ⟨Nat.le_of_ble_eq_true rfl, Nat.le_of_ble_eq_true rfl⟩) (fun _ _ _ _ h => zvs_P h)) znil)))) (zall (zcalS (Y := YX8_reach) (y := yX8_requireIndex) (cc := cX8_requireIndex) (nL := 2) (ret := none) (rm := rX8_requireIndex) (mX8_requireIndex) 92 2 wX8_92 ⟨by decide +kernel, by decide +kernel, by decide +kernel⟩ (by decide) ⟨Nat.le_of_ble_eq_true rfl, Nat.le_of_ble_eq_true rfl⟩) (zall (zcalS (Y := YX8_reach) (y := yX8_isWithin) (cc := cX8_isWithin) (nL := 3) (ret := some .boolean) (rm := rX8_isWithin) (mX8_isWithin) 47 3 wX8_47 ⟨by decide +kernel, by decide +kernel, by decide +kernel⟩ (by decide) ⟨Nat.le_of_ble_eq_true rfl, Nat.le_of_ble_eq_true rfl⟩) (zall (zcalS (Y := YX8_reach) (y := yX8_requireArgument) (cc := cX8_requireArgument) (nL := 1) (ret := none) (rm := rX8_requireArgument) (mX8_requireArgument) 51 1 wX8_51 ⟨by decide +kernel, by decide +kernel, by decide +kernel⟩ (by decide) ⟨Nat.le_of_ble_eq_true rfl, Nat.le_of_ble_eq_true rfl⟩) znil)))

theorem mX8_reach : zMet (ULM) yX8_reach cX8_reach 3 (some .int) rX8_reach (sX8_reach) := by
  refine zmet (Y := YX8_reach) rfl (by decide +kernel) ?_
  intro av F ok ex h
  unfold sX8_reach at h
  split at h
  · rename_i r w
    refine zgo_ok (YX8_reach_ok) zno kX8_reach (List.all_eq_true.mp kX8_reach_ok) 0 _ _ _ _ _ ?_
    refine And.intro (fun h1 => ?_) h.2
    have h := h.1 h1
    refine And.intro (fun h2 => ?_) (fun h2 => zreq0 (h.2 h2))
    refine zreq1 ?_
    have h := h.1 h2
    refine And.intro ((And.intro (fun h3 => ?_) (And.intro (fun h3 => ?_) (And.intro (fun h3 => ?_) (And.intro (fun h3 => ?_) (And.intro (fun h3 => ?_) trivial)))))) (fun hq => ?_)
    · have h3 : w = 0 := h3
      subst h3
      unfold aReach at h
      rw [if_pos rfl] at h
      exact h
    · have h3 : w = 1 := h3
      subst h3
      unfold aReach at h
      rw [if_neg (by decide), if_pos rfl] at h
      exact h
    · have h3 : w = 2 := h3
      subst h3
      unfold aReach at h
      rw [if_neg (by decide), if_neg (by decide), if_pos rfl] at h
      exact h
    · have h3 : w = 3 := h3
      subst h3
      unfold aReach at h
      rw [if_neg (by decide), if_neg (by decide), if_neg (by decide), if_pos rfl] at h
      exact h
    · have h3 : w = 4 := h3
      subst h3
      unfold aReach at h
      rw [if_neg (by decide), if_neg (by decide), if_neg (by decide), if_neg (by decide), if_pos rfl] at h
      exact h
    · unfold aReach at h
      rw [if_neg (fun h0 => by rw [h0] at hq; exact absurd hq (by decide)), if_neg (fun h0 => by rw [h0] at hq; exact absurd hq (by decide)), if_neg (fun h0 => by rw [h0] at hq; exact absurd hq (by decide)), if_neg (fun h0 => by rw [h0] at hq; exact absurd hq (by decide)), if_neg (fun h0 => by rw [h0] at hq; exact absurd hq (by decide))] at h
      exact h
  · exact h.elim

def kX8_lock : List zI := [
  (0, 1, .iload_n 1, [], 0),
  (1, 1, .aload_n 0, [], 0),
  (2, 3, .getfield 10, [], 0),
  (5, 3, .getfield 78, [], 0),
  (8, 3, .getfield 127, [], 0),
  (11, 3, .invokestatic 92, [], 0),
  (14, 1, .iload_n 2, [], 0),
  (15, 1, .iconst 0, [], 0),
  (16, 2, .bipush 9, [], 9),
  (18, 3, .invokestatic 47, [], 0),
  (21, 3, .invokestatic 51, [], 0),
  (24, 1, .iload_n 2, [], 0),
  (25, 51, .tableswitch 180 0 8 #[51, 66, 81, 96, 111, 126, 141, 153, 165], [205, 76, 91, 106, 121, 136, 151, 166, 178, 190], 0),
  (76, 1, .aload_n 0, [], 0),
  (77, 3, .getfield 10, [], 0),
  (80, 3, .getfield 78, [], 0),
  (83, 3, .getfield 128, [], 0),
  (86, 1, .iload_n 1, [], 0),
  (87, 3, .invokevirtual 107, [], 0),
  (90, 1, .ireturn, [], 0),
  (91, 1, .aload_n 0, [], 0),
  (92, 3, .getfield 10, [], 0),
  (95, 3, .getfield 78, [], 0),
  (98, 3, .getfield 131, [], 0),
  (101, 1, .iload_n 1, [], 0),
  (102, 3, .invokevirtual 107, [], 0),
  (105, 1, .ireturn, [], 0),
  (106, 1, .aload_n 0, [], 0),
  (107, 3, .getfield 10, [], 0),
  (110, 3, .getfield 78, [], 0),
  (113, 3, .getfield 134, [], 0),
  (116, 1, .iload_n 1, [], 0),
  (117, 3, .invokevirtual 107, [], 0),
  (120, 1, .ireturn, [], 0),
  (121, 1, .aload_n 0, [], 0),
  (122, 3, .getfield 10, [], 0),
  (125, 3, .getfield 78, [], 0),
  (128, 3, .getfield 137, [], 0),
  (131, 1, .iload_n 1, [], 0),
  (132, 3, .invokevirtual 107, [], 0),
  (135, 1, .ireturn, [], 0),
  (136, 1, .aload_n 0, [], 0),
  (137, 3, .getfield 10, [], 0),
  (140, 3, .getfield 78, [], 0),
  (143, 3, .getfield 140, [], 0),
  (146, 1, .iload_n 1, [], 0),
  (147, 3, .invokevirtual 107, [], 0),
  (150, 1, .ireturn, [], 0),
  (151, 1, .aload_n 0, [], 0),
  (152, 3, .getfield 10, [], 0),
  (155, 3, .getfield 78, [], 0),
  (158, 3, .getfield 143, [], 0),
  (161, 1, .iload_n 1, [], 0),
  (162, 3, .invokevirtual 107, [], 0),
  (165, 1, .ireturn, [], 0),
  (166, 1, .aload_n 0, [], 0),
  (167, 3, .getfield 10, [], 0),
  (170, 3, .getfield 78, [], 0),
  (173, 1, .iload_n 1, [], 0),
  (174, 3, .invokevirtual 146, [], 0),
  (177, 1, .ireturn, [], 0),
  (178, 1, .aload_n 0, [], 0),
  (179, 3, .getfield 10, [], 0),
  (182, 3, .getfield 64, [], 0),
  (185, 1, .iload_n 1, [], 0),
  (186, 3, .invokevirtual 149, [], 0),
  (189, 1, .ireturn, [], 0),
  (190, 1, .aload_n 0, [], 0),
  (191, 3, .getfield 10, [], 0),
  (194, 3, .getfield 78, [], 0),
  (197, 3, .getfield 152, [], 0),
  (200, 1, .iload_n 1, [], 0),
  (201, 3, .invokevirtual 107, [], 0),
  (204, 1, .ireturn, [], 0),
  (205, 1, .aload_n 0, [], 0),
  (206, 3, .getfield 10, [], 0),
  (209, 3, .getfield 78, [], 0),
  (212, 3, .getfield 155, [], 0),
  (215, 1, .iload_n 1, [], 0),
  (216, 3, .invokevirtual 107, [], 0),
  (219, 1, .ireturn, [], 0)]
theorem kX8_lock_ok : kX8_lock.all (zck cX8_lock) = true := by decide +kernel

def rX8_lock : Room := { frames := 7, cells := 2, slots := 12, locals := 103 }
abbrev YX8_lock : zM := (RX8, cX8_lock, 3, some .int, rX8_lock, ULM, zlk fX8, zcs [(107, 2, 0, 0, zvs (ULM) 7 (sU_at ULM)), (146, 2, 0, 0, zvs (ULM) 5 (sX5_waterIn)), (149, 2, 0, 0, zvs (ULM) 3 (sX3_convoysAt))] [(92, 2, 1, 6, sX8_requireIndex), (47, 3, 0, 0, sX8_isWithin), (51, 1, 1, 6, sX8_requireArgument)])
theorem YX8_lock_ok : zYok (YX8_lock) := zYok_of fX8_ok (zall (zcal_mono (zcalV (Y := YX8_lock) (y := yX7_at) (cc := cX7_at) (nL := 2) (ret := some .int) (rm := rX7_at) (mU_at ULM ULM_small) 107 1 7 (T := TX7) rfl wX8_107 ⟨by decide +kernel, by decide +kernel, by decide +kernel⟩ (by decide) ⟨Nat.le_of_ble_eq_true rfl, Nat.le_of_ble_eq_true rfl⟩) (fun _ _ _ _ h => zvs_P h)) (zall (zcal_mono (zcalV (Y := YX8_lock) (y := yX5_waterIn) (cc := cX5_waterIn) (nL := 2) (ret := some .int) (rm := rX5_waterIn) (uX5_waterIn) 146 1 5 (T := TX5) rfl wX8_146 ⟨by decide +kernel, by decide +kernel, by decide +kernel⟩ (by decide) ⟨Nat.le_of_ble_eq_true rfl, Nat.le_of_ble_eq_true rfl⟩) (fun _ _ _ _ h => zvs_P h)) (zall (zcal_mono (zcalV (Y := YX8_lock) (y := yX3_convoysAt) (cc := cX3_convoysAt) (nL := 4) (ret := some .int) (rm := rX3_convoysAt) (uX3_convoysAt) 149 1 3 (T := TX3) rfl wX8_149 ⟨by decide +kernel, by decide +kernel, by decide +kernel⟩ (by decide) ⟨Nat.le_of_ble_eq_true rfl, Nat.le_of_ble_eq_true rfl⟩) (fun _ _ _ _ h => zvs_P h)) znil))) (zall (zcalS (Y := YX8_lock) (y := yX8_requireIndex) (cc := cX8_requireIndex) (nL := 2) (ret := none) (rm := rX8_requireIndex) (mX8_requireIndex) 92 2 wX8_92 ⟨by decide +kernel, by decide +kernel, by decide +kernel⟩ (by decide) ⟨Nat.le_of_ble_eq_true rfl, Nat.le_of_ble_eq_true rfl⟩) (zall (zcalS (Y := YX8_lock) (y := yX8_isWithin) (cc := cX8_isWithin) (nL := 3) (ret := some .boolean) (rm := rX8_isWithin) (mX8_isWithin) 47 3 wX8_47 ⟨by decide +kernel, by decide +kernel, by decide +kernel⟩ (by decide) ⟨Nat.le_of_ble_eq_true rfl, Nat.le_of_ble_eq_true rfl⟩) (zall (zcalS (Y := YX8_lock) (y := yX8_requireArgument) (cc := cX8_requireArgument) (nL := 1) (ret := none) (rm := rX8_requireArgument) (mX8_requireArgument) 51 1 wX8_51 ⟨by decide +kernel, by decide +kernel, by decide +kernel⟩ (by decide) ⟨Nat.le_of_ble_eq_true rfl, Nat.le_of_ble_eq_true rfl⟩) znil)))

theorem mX8_lock : zMet (ULM) yX8_lock cX8_lock 3 (some .int) rX8_lock (sX8_lock) := by
  refine zmet (Y := YX8_lock) rfl (by decide +kernel) ?_
  intro av F ok ex h
  unfold sX8_lock at h
  split at h
  · rename_i r w
    refine zgo_ok (YX8_lock_ok) zno kX8_lock (List.all_eq_true.mp kX8_lock_ok) 0 _ _ _ _ _ ?_
    refine And.intro (fun h1 => ?_) h.2
    have h := h.1 h1
    refine And.intro (fun h2 => ?_) (fun h2 => zreq0 (h.2 h2))
    refine zreq1 ?_
    have h := h.1 h2
    refine And.intro ((And.intro (fun h3 => ?_) (And.intro (fun h3 => ?_) (And.intro (fun h3 => ?_) (And.intro (fun h3 => ?_) (And.intro (fun h3 => ?_) (And.intro (fun h3 => ?_) (And.intro (fun h3 => ?_) (And.intro (fun h3 => ?_) (And.intro (fun h3 => ?_) trivial)))))))))) (fun hq => ?_)
    · have h3 : w = 0 := h3
      subst h3
      unfold aLock at h
      rw [if_pos rfl] at h
      exact h
    · have h3 : w = 1 := h3
      subst h3
      unfold aLock at h
      rw [if_neg (by decide), if_pos rfl] at h
      exact h
    · have h3 : w = 2 := h3
      subst h3
      unfold aLock at h
      rw [if_neg (by decide), if_neg (by decide), if_pos rfl] at h
      exact h
    · have h3 : w = 3 := h3
      subst h3
      unfold aLock at h
      rw [if_neg (by decide), if_neg (by decide), if_neg (by decide), if_pos rfl] at h
      exact h
    · have h3 : w = 4 := h3
      subst h3
      unfold aLock at h
      rw [if_neg (by decide), if_neg (by decide), if_neg (by decide), if_neg (by decide), if_pos rfl] at h
      exact h
    · have h3 : w = 5 := h3
      subst h3
      unfold aLock at h
      rw [if_neg (by decide), if_neg (by decide), if_neg (by decide), if_neg (by decide), if_neg (by decide), if_pos rfl] at h
      exact h
    · have h3 : w = 6 := h3
      subst h3
      unfold aLock at h
      rw [if_neg (by decide), if_neg (by decide), if_neg (by decide), if_neg (by decide), if_neg (by decide), if_neg (by decide), if_pos rfl] at h
      exact h
    · have h3 : w = 7 := h3
      subst h3
      unfold aLock at h
      rw [if_neg (by decide), if_neg (by decide), if_neg (by decide), if_neg (by decide), if_neg (by decide), if_neg (by decide), if_neg (by decide), if_pos rfl] at h
      exact h
    · have h3 : w = 8 := h3
      subst h3
      unfold aLock at h
      rw [if_neg (by decide), if_neg (by decide), if_neg (by decide), if_neg (by decide), if_neg (by decide), if_neg (by decide), if_neg (by decide), if_neg (by decide), if_pos rfl] at h
      exact h
    · unfold aLock at h
      rw [if_neg (fun h0 => by rw [h0] at hq; exact absurd hq (by decide)), if_neg (fun h0 => by rw [h0] at hq; exact absurd hq (by decide)), if_neg (fun h0 => by rw [h0] at hq; exact absurd hq (by decide)), if_neg (fun h0 => by rw [h0] at hq; exact absurd hq (by decide)), if_neg (fun h0 => by rw [h0] at hq; exact absurd hq (by decide)), if_neg (fun h0 => by rw [h0] at hq; exact absurd hq (by decide)), if_neg (fun h0 => by rw [h0] at hq; exact absurd hq (by decide)), if_neg (fun h0 => by rw [h0] at hq; exact absurd hq (by decide)), if_neg (fun h0 => by rw [h0] at hq; exact absurd hq (by decide))] at h
      exact h
  · exact h.elim

def kX8_ship : List zI := [
  (0, 1, .iload_n 1, [], 0),
  (1, 1, .aload_n 0, [], 0),
  (2, 3, .getfield 10, [], 0),
  (5, 3, .getfield 64, [], 0),
  (8, 3, .getfield 68, [], 0),
  (11, 3, .invokestatic 92, [], 0),
  (14, 1, .iload_n 2, [], 0),
  (15, 1, .iconst 0, [], 0),
  (16, 2, .bipush 9, [], 9),
  (18, 3, .invokestatic 47, [], 0),
  (21, 3, .invokestatic 51, [], 0),
  (24, 1, .iload_n 2, [], 0),
  (25, 51, .tableswitch 192 0 8 #[51, 66, 81, 96, 111, 123, 138, 165, 180], [217, 76, 91, 106, 121, 136, 148, 163, 190, 205], 0),
  (76, 1, .aload_n 0, [], 0),
  (77, 3, .getfield 10, [], 0),
  (80, 3, .getfield 64, [], 0),
  (83, 3, .getfield 215, [], 0),
  (86, 1, .iload_n 1, [], 0),
  (87, 3, .invokevirtual 107, [], 0),
  (90, 1, .ireturn, [], 0),
  (91, 1, .aload_n 0, [], 0),
  (92, 3, .getfield 10, [], 0),
  (95, 3, .getfield 64, [], 0),
  (98, 3, .getfield 218, [], 0),
  (101, 1, .iload_n 1, [], 0),
  (102, 3, .invokevirtual 107, [], 0),
  (105, 1, .ireturn, [], 0),
  (106, 1, .aload_n 0, [], 0),
  (107, 3, .getfield 10, [], 0),
  (110, 3, .getfield 64, [], 0),
  (113, 3, .getfield 221, [], 0),
  (116, 1, .iload_n 1, [], 0),
  (117, 3, .invokevirtual 107, [], 0),
  (120, 1, .ireturn, [], 0),
  (121, 1, .aload_n 0, [], 0),
  (122, 3, .getfield 10, [], 0),
  (125, 3, .getfield 64, [], 0),
  (128, 3, .getfield 224, [], 0),
  (131, 1, .iload_n 1, [], 0),
  (132, 3, .invokevirtual 107, [], 0),
  (135, 1, .ireturn, [], 0),
  (136, 1, .aload_n 0, [], 0),
  (137, 3, .getfield 10, [], 0),
  (140, 3, .getfield 64, [], 0),
  (143, 1, .iload_n 1, [], 0),
  (144, 3, .invokevirtual 227, [], 0),
  (147, 1, .ireturn, [], 0),
  (148, 1, .aload_n 0, [], 0),
  (149, 3, .getfield 10, [], 0),
  (152, 3, .getfield 64, [], 0),
  (155, 3, .getfield 230, [], 0),
  (158, 1, .iload_n 1, [], 0),
  (159, 3, .invokevirtual 107, [], 0),
  (162, 1, .ireturn, [], 0),
  (163, 1, .aload_n 0, [], 0),
  (164, 3, .getfield 10, [], 0),
  (167, 3, .getfield 64, [], 0),
  (170, 1, .iload_n 1, [], 0),
  (171, 3, .invokevirtual 233, [], 0),
  (174, 3, .ifCond .eq 7, [181], 0),
  (177, 1, .iconst 0, [], 0),
  (178, 3, .goto 11, [189], 0),
  (181, 1, .aload_n 0, [], 0),
  (182, 3, .getfield 10, [], 0),
  (185, 1, .iload_n 1, [], 0),
  (186, 3, .invokevirtual 237, [], 0),
  (189, 1, .ireturn, [], 0),
  (190, 1, .aload_n 0, [], 0),
  (191, 3, .getfield 10, [], 0),
  (194, 3, .getfield 64, [], 0),
  (197, 3, .getfield 197, [], 0),
  (200, 1, .iload_n 1, [], 0),
  (201, 3, .invokevirtual 107, [], 0),
  (204, 1, .ireturn, [], 0),
  (205, 1, .aload_n 0, [], 0),
  (206, 3, .getfield 10, [], 0),
  (209, 3, .getfield 64, [], 0),
  (212, 1, .iload_n 1, [], 0),
  (213, 3, .invokevirtual 203, [], 0),
  (216, 1, .ireturn, [], 0),
  (217, 1, .aload_n 0, [], 0),
  (218, 3, .getfield 10, [], 0),
  (221, 3, .getfield 64, [], 0),
  (224, 3, .getfield 240, [], 0),
  (227, 1, .iload_n 1, [], 0),
  (228, 3, .invokevirtual 107, [], 0),
  (231, 1, .ireturn, [], 0)]
theorem kX8_ship_ok : kX8_ship.all (zck cX8_ship) = true := by decide +kernel

def rX8_ship : Room := { frames := 7, cells := 2, slots := 12, locals := 103 }
abbrev YX8_ship : zM := (RX8, cX8_ship, 3, some .int, rX8_ship, ULM, zlk fX8, zcs [(107, 2, 0, 0, zvs (ULM) 7 (sU_at ULM)), (227, 2, 0, 0, zvs (ULM) 3 (sX3_reachOf)), (233, 2, 0, 0, zvs (ULM) 3 (sF_hasLeft)), (237, 2, 0, 0, zvs (ULM) 1 (sX1_waitedBy)), (203, 2, 0, 0, zvs (ULM) 3 (sX3_shipsInConvoy))] [(92, 2, 1, 6, sX8_requireIndex), (47, 3, 0, 0, sX8_isWithin), (51, 1, 1, 6, sX8_requireArgument)])
theorem YX8_ship_ok : zYok (YX8_ship) := zYok_of fX8_ok (zall (zcal_mono (zcalV (Y := YX8_ship) (y := yX7_at) (cc := cX7_at) (nL := 2) (ret := some .int) (rm := rX7_at) (mU_at ULM ULM_small) 107 1 7 (T := TX7) rfl wX8_107 ⟨by decide +kernel, by decide +kernel, by decide +kernel⟩ (by decide) ⟨Nat.le_of_ble_eq_true rfl, Nat.le_of_ble_eq_true rfl⟩) (fun _ _ _ _ h => zvs_P h)) (zall (zcal_mono (zcalV (Y := YX8_ship) (y := yX3_reachOf) (cc := cX3_reachOf) (nL := 2) (ret := some .int) (rm := rX3_reachOf) (uX3_reachOf) 227 1 3 (T := TX3) rfl wX8_227 ⟨by decide +kernel, by decide +kernel, by decide +kernel⟩ (by decide) ⟨Nat.le_of_ble_eq_true rfl, Nat.le_of_ble_eq_true rfl⟩) (fun _ _ _ _ h => zvs_P h)) (zall (zcal_mono (zcalV (Y := YX8_ship) (y := yX3_hasLeft) (cc := cX3_hasLeft) (nL := 2) (ret := some .boolean) (rm := rX3_hasLeft) (uF_hasLeft) 233 1 3 (T := TX3) rfl wX8_233 ⟨by decide +kernel, by decide +kernel, by decide +kernel⟩ (by decide) ⟨Nat.le_of_ble_eq_true rfl, Nat.le_of_ble_eq_true rfl⟩) (fun _ _ _ _ h => zvs_P h)) (zall (zcal_mono (zcalV (Y := YX8_ship) (y := yX1_waitedBy) (cc := cX1_waitedBy) (nL := 2) (ret := some .int) (rm := rX1_waitedBy) (uX1_waitedBy) 237 1 1 (T := TX1) rfl wX8_237 ⟨by decide +kernel, by decide +kernel, by decide +kernel⟩ (by decide) ⟨Nat.le_of_ble_eq_true rfl, Nat.le_of_ble_eq_true rfl⟩) (fun _ _ _ _ h => zvs_P h)) (zall (zcal_mono (zcalV (Y := YX8_ship) (y := yX3_shipsInConvoy) (cc := cX3_shipsInConvoy) (nL := 4) (ret := some .int) (rm := rX3_shipsInConvoy) (uX3_shipsInConvoy) 203 1 3 (T := TX3) rfl wX8_203 ⟨by decide +kernel, by decide +kernel, by decide +kernel⟩ (by decide) ⟨Nat.le_of_ble_eq_true rfl, Nat.le_of_ble_eq_true rfl⟩) (fun _ _ _ _ h => zvs_P h)) znil))))) (zall (zcalS (Y := YX8_ship) (y := yX8_requireIndex) (cc := cX8_requireIndex) (nL := 2) (ret := none) (rm := rX8_requireIndex) (mX8_requireIndex) 92 2 wX8_92 ⟨by decide +kernel, by decide +kernel, by decide +kernel⟩ (by decide) ⟨Nat.le_of_ble_eq_true rfl, Nat.le_of_ble_eq_true rfl⟩) (zall (zcalS (Y := YX8_ship) (y := yX8_isWithin) (cc := cX8_isWithin) (nL := 3) (ret := some .boolean) (rm := rX8_isWithin) (mX8_isWithin) 47 3 wX8_47 ⟨by decide +kernel, by decide +kernel, by decide +kernel⟩ (by decide) ⟨Nat.le_of_ble_eq_true rfl, Nat.le_of_ble_eq_true rfl⟩) (zall (zcalS (Y := YX8_ship) (y := yX8_requireArgument) (cc := cX8_requireArgument) (nL := 1) (ret := none) (rm := rX8_requireArgument) (mX8_requireArgument) 51 1 wX8_51 ⟨by decide +kernel, by decide +kernel, by decide +kernel⟩ (by decide) ⟨Nat.le_of_ble_eq_true rfl, Nat.le_of_ble_eq_true rfl⟩) znil)))

theorem mX8_ship : zMet (ULM) yX8_ship cX8_ship 3 (some .int) rX8_ship (sX8_ship) := by
  refine zmet (Y := YX8_ship) rfl (by decide +kernel) ?_
  intro av F ok ex h
  unfold sX8_ship at h
  split at h
  · rename_i r w
    refine zgo_ok (YX8_ship_ok) zno kX8_ship (List.all_eq_true.mp kX8_ship_ok) 0 _ _ _ _ _ ?_
    refine And.intro (fun h1 => ?_) h.2
    have h := h.1 h1
    refine And.intro (fun h2 => ?_) (fun h2 => zreq0 (h.2 h2))
    refine zreq1 ?_
    have h := h.1 h2
    refine And.intro ((And.intro (fun h3 => ?_) (And.intro (fun h3 => ?_) (And.intro (fun h3 => ?_) (And.intro (fun h3 => ?_) (And.intro (fun h3 => ?_) (And.intro (fun h3 => ?_) (And.intro (fun h3 => ?_) (And.intro (fun h3 => ?_) (And.intro (fun h3 => ?_) trivial)))))))))) (fun hq => ?_)
    · have h3 : w = 0 := h3
      subst h3
      unfold aShip at h
      rw [if_pos rfl] at h
      exact h
    · have h3 : w = 1 := h3
      subst h3
      unfold aShip at h
      rw [if_neg (by decide), if_pos rfl] at h
      exact h
    · have h3 : w = 2 := h3
      subst h3
      unfold aShip at h
      rw [if_neg (by decide), if_neg (by decide), if_pos rfl] at h
      exact h
    · have h3 : w = 3 := h3
      subst h3
      unfold aShip at h
      rw [if_neg (by decide), if_neg (by decide), if_neg (by decide), if_pos rfl] at h
      exact h
    · have h3 : w = 4 := h3
      subst h3
      unfold aShip at h
      rw [if_neg (by decide), if_neg (by decide), if_neg (by decide), if_neg (by decide), if_pos rfl] at h
      exact h
    · have h3 : w = 5 := h3
      subst h3
      unfold aShip at h
      rw [if_neg (by decide), if_neg (by decide), if_neg (by decide), if_neg (by decide), if_neg (by decide), if_pos rfl] at h
      exact h
    · have h3 : w = 6 := h3
      subst h3
      unfold aShip at h
      rw [if_neg (by decide), if_neg (by decide), if_neg (by decide), if_neg (by decide), if_neg (by decide), if_neg (by decide), if_pos rfl] at h
      refine And.intro (fun h4 => ?_) (fun h4 => ?_)
      · have h4 : qWa F r = -1 := h4
        rw [if_pos h4] at h
        exact zjeq1 h
      · have h4 : ¬ qWa F r = -1 := h4
        rw [if_neg h4] at h
        exact zjeq0 h
    · have h3 : w = 7 := h3
      subst h3
      unfold aShip at h
      rw [if_neg (by decide), if_neg (by decide), if_neg (by decide), if_neg (by decide), if_neg (by decide), if_neg (by decide), if_neg (by decide), if_pos rfl] at h
      exact h
    · have h3 : w = 8 := h3
      subst h3
      unfold aShip at h
      rw [if_neg (by decide), if_neg (by decide), if_neg (by decide), if_neg (by decide), if_neg (by decide), if_neg (by decide), if_neg (by decide), if_neg (by decide), if_pos rfl] at h
      exact h
    · unfold aShip at h
      rw [if_neg (fun h0 => by rw [h0] at hq; exact absurd hq (by decide)), if_neg (fun h0 => by rw [h0] at hq; exact absurd hq (by decide)), if_neg (fun h0 => by rw [h0] at hq; exact absurd hq (by decide)), if_neg (fun h0 => by rw [h0] at hq; exact absurd hq (by decide)), if_neg (fun h0 => by rw [h0] at hq; exact absurd hq (by decide)), if_neg (fun h0 => by rw [h0] at hq; exact absurd hq (by decide)), if_neg (fun h0 => by rw [h0] at hq; exact absurd hq (by decide)), if_neg (fun h0 => by rw [h0] at hq; exact absurd hq (by decide)), if_neg (fun h0 => by rw [h0] at hq; exact absurd hq (by decide))] at h
      exact h
  · exact h.elim

def kX8_account : List zI := [
  (0, 1, .iload_n 1, [], 0),
  (1, 1, .iconst 0, [], 0),
  (2, 2, .bipush 10, [], 10),
  (4, 3, .invokestatic 47, [], 0),
  (7, 3, .invokestatic 51, [], 0),
  (10, 1, .iload_n 1, [], 0),
  (11, 53, .tableswitch 160 0 9 #[53, 64, 75, 86, 94, 108, 119, 127, 135, 149], [171, 64, 75, 86, 97, 105, 119, 130, 138, 146, 160], 0),
  (64, 1, .aload_n 0, [], 0),
  (65, 3, .getfield 10, [], 0),
  (68, 3, .getfield 55, [], 0),
  (71, 3, .getfield 59, [], 0),
  (74, 1, .ireturn, [], 0),
  (75, 1, .aload_n 0, [], 0),
  (76, 3, .getfield 10, [], 0),
  (79, 3, .getfield 64, [], 0),
  (82, 3, .getfield 68, [], 0),
  (85, 1, .ireturn, [], 0),
  (86, 1, .aload_n 0, [], 0),
  (87, 3, .getfield 10, [], 0),
  (90, 3, .getfield 64, [], 0),
  (93, 3, .invokevirtual 258, [], 0),
  (96, 1, .ireturn, [], 0),
  (97, 1, .aload_n 0, [], 0),
  (98, 3, .getfield 10, [], 0),
  (101, 3, .invokevirtual 267, [], 0),
  (104, 1, .ireturn, [], 0),
  (105, 1, .aload_n 0, [], 0),
  (106, 3, .getfield 10, [], 0),
  (109, 3, .getfield 55, [], 0),
  (112, 3, .getfield 115, [], 0),
  (115, 3, .invokevirtual 270, [], 0),
  (118, 1, .ireturn, [], 0),
  (119, 1, .aload_n 0, [], 0),
  (120, 3, .getfield 10, [], 0),
  (123, 3, .getfield 78, [], 0),
  (126, 3, .invokevirtual 273, [], 0),
  (129, 1, .ireturn, [], 0),
  (130, 1, .aload_n 0, [], 0),
  (131, 3, .getfield 10, [], 0),
  (134, 3, .getfield 276, [], 0),
  (137, 1, .ireturn, [], 0),
  (138, 1, .aload_n 0, [], 0),
  (139, 3, .getfield 10, [], 0),
  (142, 3, .getfield 279, [], 0),
  (145, 1, .ireturn, [], 0),
  (146, 1, .aload_n 0, [], 0),
  (147, 3, .getfield 10, [], 0),
  (150, 3, .getfield 78, [], 0),
  (153, 3, .getfield 155, [], 0),
  (156, 3, .invokevirtual 270, [], 0),
  (159, 1, .ireturn, [], 0),
  (160, 1, .aload_n 0, [], 0),
  (161, 3, .getfield 10, [], 0),
  (164, 3, .getfield 78, [], 0),
  (167, 3, .getfield 282, [], 0),
  (170, 1, .ireturn, [], 0),
  (171, 1, .aload_n 0, [], 0),
  (172, 3, .getfield 10, [], 0),
  (175, 3, .getfield 285, [], 0),
  (178, 1, .ireturn, [], 0)]
theorem kX8_account_ok : kX8_account.all (zck cX8_account) = true := by decide +kernel

def rX8_account : Room := { frames := 7, cells := 1, slots := 6, locals := 106 }
abbrev YX8_account : zM := (RX8, cX8_account, 2, some .int, rX8_account, ULM, zlk fX8, zcs [(258, 1, 0, 0, zvs (ULM) 3 (sX3_shipsThatLeft)), (267, 1, 0, 0, zvs (ULM) 1 (sX1_waitingConvoys)), (270, 1, 0, 0, zvs (ULM) 7 (sU_sum ULM)), (273, 1, 0, 0, zvs (ULM) 5 (sX5_allWater))] [(47, 3, 0, 0, sX8_isWithin), (51, 1, 1, 6, sX8_requireArgument)])
theorem YX8_account_ok : zYok (YX8_account) := zYok_of fX8_ok (zall (zcal_mono (zcalV (Y := YX8_account) (y := yX3_shipsThatLeft) (cc := cX3_shipsThatLeft) (nL := 1) (ret := some .int) (rm := rX3_shipsThatLeft) (uX3_shipsThatLeft) 258 0 3 (T := TX3) rfl wX8_258 ⟨by decide +kernel, by decide +kernel, by decide +kernel⟩ (by decide) ⟨Nat.le_of_ble_eq_true rfl, Nat.le_of_ble_eq_true rfl⟩) (fun _ _ _ _ h => zvs_P h)) (zall (zcal_mono (zcalV (Y := YX8_account) (y := yX1_waitingConvoys) (cc := cX1_waitingConvoys) (nL := 3) (ret := some .int) (rm := rX1_waitingConvoys) (uX1_waitingConvoys) 267 0 1 (T := TX1) rfl wX8_267 ⟨by decide +kernel, by decide +kernel, by decide +kernel⟩ (by decide) ⟨Nat.le_of_ble_eq_true rfl, Nat.le_of_ble_eq_true rfl⟩) (fun _ _ _ _ h => zvs_P h)) (zall (zcal_mono (zcalV (Y := YX8_account) (y := yX7_sum) (cc := cX7_sum) (nL := 3) (ret := some .int) (rm := rX7_sum) (mU_sum ULM ULM_small) 270 0 7 (T := TX7) rfl wX8_270 ⟨by decide +kernel, by decide +kernel, by decide +kernel⟩ (by decide) ⟨Nat.le_of_ble_eq_true rfl, Nat.le_of_ble_eq_true rfl⟩) (fun _ _ _ _ h => zvs_P h)) (zall (zcal_mono (zcalV (Y := YX8_account) (y := yX5_allWater) (cc := cX5_allWater) (nL := 3) (ret := some .int) (rm := rX5_allWater) (uX5_allWater) 273 0 5 (T := TX5) rfl wX8_273 ⟨by decide +kernel, by decide +kernel, by decide +kernel⟩ (by decide) ⟨Nat.le_of_ble_eq_true rfl, Nat.le_of_ble_eq_true rfl⟩) (fun _ _ _ _ h => zvs_P h)) znil)))) (zall (zcalS (Y := YX8_account) (y := yX8_isWithin) (cc := cX8_isWithin) (nL := 3) (ret := some .boolean) (rm := rX8_isWithin) (mX8_isWithin) 47 3 wX8_47 ⟨by decide +kernel, by decide +kernel, by decide +kernel⟩ (by decide) ⟨Nat.le_of_ble_eq_true rfl, Nat.le_of_ble_eq_true rfl⟩) (zall (zcalS (Y := YX8_account) (y := yX8_requireArgument) (cc := cX8_requireArgument) (nL := 1) (ret := none) (rm := rX8_requireArgument) (mX8_requireArgument) 51 1 wX8_51 ⟨by decide +kernel, by decide +kernel, by decide +kernel⟩ (by decide) ⟨Nat.le_of_ble_eq_true rfl, Nat.le_of_ble_eq_true rfl⟩) znil))

theorem mX8_account : zMet (ULM) yX8_account cX8_account 2 (some .int) rX8_account (sX8_account) := by
  refine zmet (Y := YX8_account) rfl (by decide +kernel) ?_
  intro av F ok ex h
  unfold sX8_account at h
  split at h
  · rename_i w
    refine zgo_ok (YX8_account_ok) zno kX8_account (List.all_eq_true.mp kX8_account_ok) 0 _ _ _ _ _ ?_
    refine And.intro (fun h2 => ?_) (fun h2 => zreq0 (h.2 h2))
    refine zreq1 ?_
    have h := h.1 h2
    refine And.intro ((And.intro (fun h3 => ?_) (And.intro (fun h3 => ?_) (And.intro (fun h3 => ?_) (And.intro (fun h3 => ?_) (And.intro (fun h3 => ?_) (And.intro (fun h3 => ?_) (And.intro (fun h3 => ?_) (And.intro (fun h3 => ?_) (And.intro (fun h3 => ?_) (And.intro (fun h3 => ?_) trivial))))))))))) (fun hq => ?_)
    · have h3 : w = 0 := h3
      subst h3
      unfold aAcc at h
      rw [if_pos rfl] at h
      exact h
    · have h3 : w = 1 := h3
      subst h3
      unfold aAcc at h
      rw [if_neg (by decide), if_pos rfl] at h
      exact h
    · have h3 : w = 2 := h3
      subst h3
      unfold aAcc at h
      rw [if_neg (by decide), if_neg (by decide), if_pos rfl] at h
      exact h
    · have h3 : w = 3 := h3
      subst h3
      unfold aAcc at h
      rw [if_neg (by decide), if_neg (by decide), if_neg (by decide), if_pos rfl] at h
      exact h
    · have h3 : w = 4 := h3
      subst h3
      unfold aAcc at h
      rw [if_neg (by decide), if_neg (by decide), if_neg (by decide), if_neg (by decide), if_pos rfl] at h
      exact h
    · have h3 : w = 5 := h3
      subst h3
      unfold aAcc at h
      rw [if_neg (by decide), if_neg (by decide), if_neg (by decide), if_neg (by decide), if_neg (by decide), if_pos rfl] at h
      exact h
    · have h3 : w = 6 := h3
      subst h3
      unfold aAcc at h
      rw [if_neg (by decide), if_neg (by decide), if_neg (by decide), if_neg (by decide), if_neg (by decide), if_neg (by decide), if_pos rfl] at h
      exact h
    · have h3 : w = 7 := h3
      subst h3
      unfold aAcc at h
      rw [if_neg (by decide), if_neg (by decide), if_neg (by decide), if_neg (by decide), if_neg (by decide), if_neg (by decide), if_neg (by decide), if_pos rfl] at h
      exact h
    · have h3 : w = 8 := h3
      subst h3
      unfold aAcc at h
      rw [if_neg (by decide), if_neg (by decide), if_neg (by decide), if_neg (by decide), if_neg (by decide), if_neg (by decide), if_neg (by decide), if_neg (by decide), if_pos rfl] at h
      exact h
    · have h3 : w = 9 := h3
      subst h3
      unfold aAcc at h
      rw [if_neg (by decide), if_neg (by decide), if_neg (by decide), if_neg (by decide), if_neg (by decide), if_neg (by decide), if_neg (by decide), if_neg (by decide), if_neg (by decide), if_pos rfl] at h
      exact h
    · unfold aAcc at h
      rw [if_neg (fun h0 => by rw [h0] at hq; exact absurd hq (by decide)), if_neg (fun h0 => by rw [h0] at hq; exact absurd hq (by decide)), if_neg (fun h0 => by rw [h0] at hq; exact absurd hq (by decide)), if_neg (fun h0 => by rw [h0] at hq; exact absurd hq (by decide)), if_neg (fun h0 => by rw [h0] at hq; exact absurd hq (by decide)), if_neg (fun h0 => by rw [h0] at hq; exact absurd hq (by decide)), if_neg (fun h0 => by rw [h0] at hq; exact absurd hq (by decide)), if_neg (fun h0 => by rw [h0] at hq; exact absurd hq (by decide)), if_neg (fun h0 => by rw [h0] at hq; exact absurd hq (by decide)), if_neg (fun h0 => by rw [h0] at hq; exact absurd hq (by decide))] at h
      exact h
  · exact h.elim

def kX8_faultPosition : List zI := [
  (0, 1, .aload_n 0, [], 0),
  (1, 3, .getfield 40, [], 0),
  (4, 1, .ireturn, [], 0)]
theorem kX8_faultPosition_ok : kX8_faultPosition.all (zck cX8_faultPosition) = true := by decide +kernel

def rX8_faultPosition : Room := { frames := 0, cells := 0, slots := 0, locals := 0 }
abbrev YX8_faultPosition : zM := (RX8, cX8_faultPosition, 1, some .int, rX8_faultPosition, ULM, zlk fX8, zcs [] [])
theorem YX8_faultPosition_ok : zYok (YX8_faultPosition) := zYok_of fX8_ok znil znil

theorem mX8_faultPosition : zMet (ULM) yX8_faultPosition cX8_faultPosition 1 (some .int) rX8_faultPosition (sX8_faultPosition) := by
  refine zmet (Y := YX8_faultPosition) rfl (by decide +kernel) ?_
  intro av F ok ex h
  unfold sX8_faultPosition at h
  split at h
  · refine zgo_ok (YX8_faultPosition_ok) zno kX8_faultPosition (List.all_eq_true.mp kX8_faultPosition_ok) 0 _ _ _ _ _ ?_
    exact h
  · exact h.elim

def kX8_tick : List zI := [
  (0, 1, .aload_n 0, [], 0),
  (1, 3, .getfield 10, [], 0),
  (4, 3, .getfield 255, [], 0),
  (7, 1, .ireturn, [], 0)]
theorem kX8_tick_ok : kX8_tick.all (zck cX8_tick) = true := by decide +kernel

def rX8_tick : Room := { frames := 0, cells := 0, slots := 0, locals := 0 }
abbrev YX8_tick : zM := (RX8, cX8_tick, 1, some .int, rX8_tick, ULM, zlk fX8, zcs [] [])
theorem YX8_tick_ok : zYok (YX8_tick) := zYok_of fX8_ok znil znil

theorem mX8_tick : zMet (ULM) yX8_tick cX8_tick 1 (some .int) rX8_tick (sX8_tick) := by
  refine zmet (Y := YX8_tick) rfl (by decide +kernel) ?_
  intro av F ok ex h
  unfold sX8_tick at h
  split at h
  · refine zgo_ok (YX8_tick_ok) zno kX8_tick (List.all_eq_true.mp kX8_tick_ok) 0 _ _ _ _ _ ?_
    exact h
  · exact h.elim

def kX8_append : List zI := [
  (0, 1, .aload_n 0, [], 0),
  (1, 3, .getfield 32, [], 0),
  (4, 3, .getfield 169, [], 0),
  (7, 2, .bipush 50, [], 50),
  (9, 3, .if_icmp .ge 7, [16], 0),
  (12, 1, .iconst 1, [], 1),
  (13, 3, .goto 4, [17], 0),
  (16, 1, .iconst 0, [], 0),
  (17, 3, .invokestatic 71, [], 0),
  (20, 1, .aload_n 0, [], 0),
  (21, 3, .getfield 32, [], 0),
  (24, 1, .iload_n 1, [], 0),
  (25, 3, .invokevirtual 171, [], 0),
  (28, 1, .return_, [], 0)]
theorem kX8_append_ok : kX8_append.all (zck cX8_append) = true := by decide +kernel

def rX8_append : Room := { frames := 7, cells := 1, slots := 6, locals := 102 }
abbrev YX8_append : zM := (RX8, cX8_append, 2, none, rX8_append, ULM, zlk fX8, zcs [(171, 2, 0, 0, zvs (ULM) 0 (sT_put))] [(71, 1, 1, 6, sX8_requireState)])
theorem YX8_append_ok : zYok (YX8_append) := zYok_of fX8_ok (zall (zcal_mono (zcalV (Y := YX8_append) (y := yX0_put) (cc := cX0_put) (nL := 2) (ret := none) (rm := rX0_put) (uT_put) 171 1 0 (T := TX0) rfl wX8_171 ⟨by decide +kernel, by decide +kernel, by decide +kernel⟩ (by decide) ⟨Nat.le_of_ble_eq_true rfl, Nat.le_of_ble_eq_true rfl⟩) (fun _ _ _ _ h => zvs_P h)) znil) (zall (zcalS (Y := YX8_append) (y := yX8_requireState) (cc := cX8_requireState) (nL := 1) (ret := none) (rm := rX8_requireState) (mX8_requireState) 71 1 wX8_71 ⟨by decide +kernel, by decide +kernel, by decide +kernel⟩ (by decide) ⟨Nat.le_of_ble_eq_true rfl, Nat.le_of_ble_eq_true rfl⟩) znil)

theorem mX8_append : zMet (ULM) yX8_append cX8_append 2 (none) rX8_append (sX8_append) := by
  refine zmet (Y := YX8_append) rfl (by decide +kernel) ?_
  intro av F ok ex h
  unfold sX8_append at h
  split at h
  · rename_i c
    refine zgo_ok (YX8_append_ok) zno kX8_append (List.all_eq_true.mp kX8_append_ok) 0 _ _ _ _ _ ?_
    refine And.intro (fun h1 => zreq0 (h.2 (Int32.not_lt.mpr h1))) (fun h1 => ?_)
    refine zreq1 ?_
    exact h.1 (Int32.not_le.mp h1)
  · exact h.elim

def kX8_refusal : List zI := [
  (0, 1, .aload_n 0, [], 0),
  (1, 3, .getfield 44, [], 0),
  (4, 3, .ifCond .eq 7, [11], 0),
  (7, 1, .iconst 1, [], 1),
  (8, 3, .goto 4, [12], 0),
  (11, 1, .iconst 0, [], 0),
  (12, 3, .invokestatic 212, [], 0),
  (15, 1, .aload_n 0, [], 0),
  (16, 3, .getfield 44, [], 0),
  (19, 1, .ireturn, [], 0)]
theorem kX8_refusal_ok : kX8_refusal.all (zck cX8_refusal) = true := by decide +kernel

def rX8_refusal : Room := { frames := 7, cells := 1, slots := 6, locals := 102 }
abbrev YX8_refusal : zM := (RX8, cX8_refusal, 1, some .int, rX8_refusal, ULM, zlk fX8, zcs [] [(212, 1, 1, 6, sX8_requireElement)])
theorem YX8_refusal_ok : zYok (YX8_refusal) := zYok_of fX8_ok znil (zall (zcalS (Y := YX8_refusal) (y := yX8_requireElement) (cc := cX8_requireElement) (nL := 1) (ret := none) (rm := rX8_requireElement) (mX8_requireElement) 212 1 wX8_212 ⟨by decide +kernel, by decide +kernel, by decide +kernel⟩ (by decide) ⟨Nat.le_of_ble_eq_true rfl, Nat.le_of_ble_eq_true rfl⟩) znil)

theorem mX8_refusal : zMet (ULM) yX8_refusal cX8_refusal 1 (some .int) rX8_refusal (sX8_refusal) := by
  refine zmet (Y := YX8_refusal) rfl (by decide +kernel) ?_
  intro av F ok ex h
  unfold sX8_refusal at h
  split at h
  · refine zgo_ok (YX8_refusal_ok) zno kX8_refusal (List.all_eq_true.mp kX8_refusal_ok) 0 _ _ _ _ _ ?_
    refine And.intro (fun h1 => zreq0 (h.2 (fun h2 => h2 h1))) (fun h1 => ?_)
    refine zreq1 ?_
    exact h.1 h1
  · exact h.elim

def kX8_convoy : List zI := [
  (0, 1, .iload_n 1, [], 0),
  (1, 1, .aload_n 0, [], 0),
  (2, 3, .getfield 10, [], 0),
  (5, 3, .getfield 64, [], 0),
  (8, 3, .getfield 68, [], 0),
  (11, 3, .invokestatic 92, [], 0),
  (14, 1, .aload_n 0, [], 0),
  (15, 3, .getfield 10, [], 0),
  (18, 3, .getfield 64, [], 0),
  (21, 1, .iload_n 1, [], 0),
  (22, 1, .iload_n 2, [], 0),
  (23, 3, .invokevirtual 243, [], 0),
  (26, 1, .istore_n 3, [], 0),
  (27, 1, .iload_n 3, [], 0),
  (28, 1, .iconst (-1), [], (-1)),
  (29, 3, .if_icmp .eq 7, [36], 0),
  (32, 1, .iconst 1, [], 1),
  (33, 3, .goto 4, [37], 0),
  (36, 1, .iconst 0, [], 0),
  (37, 3, .invokestatic 212, [], 0),
  (40, 1, .iload_n 3, [], 0),
  (41, 1, .ireturn, [], 0)]
theorem kX8_convoy_ok : kX8_convoy.all (zck cX8_convoy) = true := by decide +kernel

def rX8_convoy : Room := { frames := 7, cells := 2, slots := 12, locals := 103 }
abbrev YX8_convoy : zM := (RX8, cX8_convoy, 4, some .int, rX8_convoy, ULM, zlk fX8, zcs [(243, 3, 0, 0, zvs (ULM) 3 (sX3_shipOfConvoy))] [(92, 2, 1, 6, sX8_requireIndex), (212, 1, 1, 6, sX8_requireElement)])
theorem YX8_convoy_ok : zYok (YX8_convoy) := zYok_of fX8_ok (zall (zcal_mono (zcalV (Y := YX8_convoy) (y := yX3_shipOfConvoy) (cc := cX3_shipOfConvoy) (nL := 5) (ret := some .int) (rm := rX3_shipOfConvoy) (uX3_shipOfConvoy) 243 2 3 (T := TX3) rfl wX8_243 ⟨by decide +kernel, by decide +kernel, by decide +kernel⟩ (by decide) ⟨Nat.le_of_ble_eq_true rfl, Nat.le_of_ble_eq_true rfl⟩) (fun _ _ _ _ h => zvs_P h)) znil) (zall (zcalS (Y := YX8_convoy) (y := yX8_requireIndex) (cc := cX8_requireIndex) (nL := 2) (ret := none) (rm := rX8_requireIndex) (mX8_requireIndex) 92 2 wX8_92 ⟨by decide +kernel, by decide +kernel, by decide +kernel⟩ (by decide) ⟨Nat.le_of_ble_eq_true rfl, Nat.le_of_ble_eq_true rfl⟩) (zall (zcalS (Y := YX8_convoy) (y := yX8_requireElement) (cc := cX8_requireElement) (nL := 1) (ret := none) (rm := rX8_requireElement) (mX8_requireElement) 212 1 wX8_212 ⟨by decide +kernel, by decide +kernel, by decide +kernel⟩ (by decide) ⟨Nat.le_of_ble_eq_true rfl, Nat.le_of_ble_eq_true rfl⟩) znil))

theorem mX8_convoy : zMet (ULM) yX8_convoy cX8_convoy 4 (some .int) rX8_convoy (sX8_convoy) := by
  refine zmet (Y := YX8_convoy) rfl (by decide +kernel) ?_
  intro av F ok ex h
  unfold sX8_convoy at h
  split at h
  · rename_i s x
    refine zgo_ok (YX8_convoy_ok) zno kX8_convoy (List.all_eq_true.mp kX8_convoy_ok) 0 _ _ _ _ _ ?_
    refine And.intro (fun h1 => ?_) h.2
    have h := h.1 h1
    refine And.intro (fun h2 => zreq0 (h.2 (fun h3 => h3 h2))) (fun h2 => ?_)
    refine zreq1 ?_
    exact h.1 h2
  · exact h.elim

def kX8_waiting : List zI := [
  (0, 1, .iload_n 1, [], 0),
  (1, 1, .aload_n 0, [], 0),
  (2, 3, .getfield 10, [], 0),
  (5, 3, .getfield 78, [], 0),
  (8, 3, .getfield 127, [], 0),
  (11, 3, .invokestatic 92, [], 0),
  (14, 1, .aload_n 0, [], 0),
  (15, 3, .getfield 10, [], 0),
  (18, 1, .iload_n 1, [], 0),
  (19, 1, .iload_n 2, [], 0),
  (20, 3, .invokevirtual 246, [], 0),
  (23, 1, .istore_n 3, [], 0),
  (24, 1, .iload_n 3, [], 0),
  (25, 1, .iconst (-1), [], (-1)),
  (26, 3, .if_icmp .eq 7, [33], 0),
  (29, 1, .iconst 1, [], 1),
  (30, 3, .goto 4, [34], 0),
  (33, 1, .iconst 0, [], 0),
  (34, 3, .invokestatic 212, [], 0),
  (37, 1, .iload_n 3, [], 0),
  (38, 1, .ireturn, [], 0)]
theorem kX8_waiting_ok : kX8_waiting.all (zck cX8_waiting) = true := by decide +kernel

def rX8_waiting : Room := { frames := 7, cells := 2, slots := 12, locals := 137 }
abbrev YX8_waiting : zM := (RX8, cX8_waiting, 4, some .int, rX8_waiting, ULM, zlk fX8, zcs [(246, 3, 0, 0, zvs (ULM) 1 (sX1_convoyInOrder))] [(92, 2, 1, 6, sX8_requireIndex), (212, 1, 1, 6, sX8_requireElement)])
theorem YX8_waiting_ok : zYok (YX8_waiting) := zYok_of fX8_ok (zall (zcal_mono (zcalV (Y := YX8_waiting) (y := yX1_convoyInOrder) (cc := cX1_convoyInOrder) (nL := 4) (ret := some .int) (rm := rX1_convoyInOrder) (uX1_convoyInOrder) 246 2 1 (T := TX1) rfl wX8_246 ⟨by decide +kernel, by decide +kernel, by decide +kernel⟩ (by decide) ⟨Nat.le_of_ble_eq_true rfl, Nat.le_of_ble_eq_true rfl⟩) (fun _ _ _ _ h => zvs_P h)) znil) (zall (zcalS (Y := YX8_waiting) (y := yX8_requireIndex) (cc := cX8_requireIndex) (nL := 2) (ret := none) (rm := rX8_requireIndex) (mX8_requireIndex) 92 2 wX8_92 ⟨by decide +kernel, by decide +kernel, by decide +kernel⟩ (by decide) ⟨Nat.le_of_ble_eq_true rfl, Nat.le_of_ble_eq_true rfl⟩) (zall (zcalS (Y := YX8_waiting) (y := yX8_requireElement) (cc := cX8_requireElement) (nL := 1) (ret := none) (rm := rX8_requireElement) (mX8_requireElement) 212 1 wX8_212 ⟨by decide +kernel, by decide +kernel, by decide +kernel⟩ (by decide) ⟨Nat.le_of_ble_eq_true rfl, Nat.le_of_ble_eq_true rfl⟩) znil))

theorem mX8_waiting : zMet (ULM) yX8_waiting cX8_waiting 4 (some .int) rX8_waiting (sX8_waiting) := by
  refine zmet (Y := YX8_waiting) rfl (by decide +kernel) ?_
  intro av F ok ex h
  unfold sX8_waiting at h
  split at h
  · rename_i l x
    refine zgo_ok (YX8_waiting_ok) zno kX8_waiting (List.all_eq_true.mp kX8_waiting_ok) 0 _ _ _ _ _ ?_
    refine And.intro (fun h1 => ?_) h.2
    have h := h.1 h1
    refine And.intro (fun h2 => zreq0 (h.2 (fun h3 => h3 h2))) (fun h2 => ?_)
    refine zreq1 ?_
    exact h.1 h2
  · exact h.elim

def kX8_priority : List zI := [
  (0, 1, .iload_n 1, [], 0),
  (1, 1, .aload_n 0, [], 0),
  (2, 3, .getfield 10, [], 0),
  (5, 3, .getfield 64, [], 0),
  (8, 3, .getfield 68, [], 0),
  (11, 3, .invokestatic 92, [], 0),
  (14, 1, .aload_n 0, [], 0),
  (15, 3, .getfield 10, [], 0),
  (18, 3, .getfield 64, [], 0),
  (21, 1, .iload_n 1, [], 0),
  (22, 3, .invokevirtual 233, [], 0),
  (25, 3, .ifCond .ne 7, [32], 0),
  (28, 1, .iconst 1, [], 1),
  (29, 3, .goto 4, [33], 0),
  (32, 1, .iconst 0, [], 0),
  (33, 3, .invokestatic 71, [], 0),
  (36, 1, .aload_n 0, [], 0),
  (37, 3, .getfield 10, [], 0),
  (40, 1, .aload_n 0, [], 0),
  (41, 3, .getfield 10, [], 0),
  (44, 3, .getfield 64, [], 0),
  (47, 3, .getfield 197, [], 0),
  (50, 1, .iload_n 1, [], 0),
  (51, 3, .invokevirtual 107, [], 0),
  (54, 3, .invokevirtual 249, [], 0),
  (57, 1, .ireturn, [], 0)]
theorem kX8_priority_ok : kX8_priority.all (zck cX8_priority) = true := by decide +kernel

def rX8_priority : Room := { frames := 7, cells := 2, slots := 12, locals := 103 }
abbrev YX8_priority : zM := (RX8, cX8_priority, 2, some .int, rX8_priority, ULM, zlk fX8, zcs [(233, 2, 0, 0, zvs (ULM) 3 (sF_hasLeft)), (107, 2, 0, 0, zvs (ULM) 7 (sU_at ULM)), (249, 2, 0, 0, zvs (ULM) 1 (sX1_priorityOf))] [(92, 2, 1, 6, sX8_requireIndex), (71, 1, 1, 6, sX8_requireState)])
theorem YX8_priority_ok : zYok (YX8_priority) := zYok_of fX8_ok (zall (zcal_mono (zcalV (Y := YX8_priority) (y := yX3_hasLeft) (cc := cX3_hasLeft) (nL := 2) (ret := some .boolean) (rm := rX3_hasLeft) (uF_hasLeft) 233 1 3 (T := TX3) rfl wX8_233 ⟨by decide +kernel, by decide +kernel, by decide +kernel⟩ (by decide) ⟨Nat.le_of_ble_eq_true rfl, Nat.le_of_ble_eq_true rfl⟩) (fun _ _ _ _ h => zvs_P h)) (zall (zcal_mono (zcalV (Y := YX8_priority) (y := yX7_at) (cc := cX7_at) (nL := 2) (ret := some .int) (rm := rX7_at) (mU_at ULM ULM_small) 107 1 7 (T := TX7) rfl wX8_107 ⟨by decide +kernel, by decide +kernel, by decide +kernel⟩ (by decide) ⟨Nat.le_of_ble_eq_true rfl, Nat.le_of_ble_eq_true rfl⟩) (fun _ _ _ _ h => zvs_P h)) (zall (zcal_mono (zcalV (Y := YX8_priority) (y := yX1_priorityOf) (cc := cX1_priorityOf) (nL := 3) (ret := some .int) (rm := rX1_priorityOf) (uX1_priorityOf) 249 1 1 (T := TX1) rfl wX8_249 ⟨by decide +kernel, by decide +kernel, by decide +kernel⟩ (by decide) ⟨Nat.le_of_ble_eq_true rfl, Nat.le_of_ble_eq_true rfl⟩) (fun _ _ _ _ h => zvs_P h)) znil))) (zall (zcalS (Y := YX8_priority) (y := yX8_requireIndex) (cc := cX8_requireIndex) (nL := 2) (ret := none) (rm := rX8_requireIndex) (mX8_requireIndex) 92 2 wX8_92 ⟨by decide +kernel, by decide +kernel, by decide +kernel⟩ (by decide) ⟨Nat.le_of_ble_eq_true rfl, Nat.le_of_ble_eq_true rfl⟩) (zall (zcalS (Y := YX8_priority) (y := yX8_requireState) (cc := cX8_requireState) (nL := 1) (ret := none) (rm := rX8_requireState) (mX8_requireState) 71 1 wX8_71 ⟨by decide +kernel, by decide +kernel, by decide +kernel⟩ (by decide) ⟨Nat.le_of_ble_eq_true rfl, Nat.le_of_ble_eq_true rfl⟩) znil))

theorem mX8_priority : zMet (ULM) yX8_priority cX8_priority 2 (some .int) rX8_priority (sX8_priority) := by
  refine zmet (Y := YX8_priority) rfl (by decide +kernel) ?_
  intro av F ok ex h
  unfold sX8_priority at h
  split at h
  · rename_i s
    refine zgo_ok (YX8_priority_ok) zno kX8_priority (List.all_eq_true.mp kX8_priority_ok) 0 _ _ _ _ _ ?_
    refine And.intro (fun h1 => ?_) h.2
    have h := h.1 h1
    refine And.intro (fun h2 => zjne1 (zreq0 (h.2 (fun h3 => h3 h2)))) (fun h2 => ?_)
    refine zjne0 ?_
    refine zreq1 ?_
    have h := h.1 h2
    exact h
  · exact h.elim

def kX8_hindrance : List zI := [
  (0, 1, .iload_n 1, [], 0),
  (1, 1, .aload_n 0, [], 0),
  (2, 3, .getfield 10, [], 0),
  (5, 3, .getfield 64, [], 0),
  (8, 3, .getfield 68, [], 0),
  (11, 3, .invokestatic 92, [], 0),
  (14, 1, .aload_n 0, [], 0),
  (15, 3, .getfield 10, [], 0),
  (18, 3, .getfield 64, [], 0),
  (21, 1, .iload_n 1, [], 0),
  (22, 3, .invokevirtual 233, [], 0),
  (25, 3, .ifCond .ne 7, [32], 0),
  (28, 1, .iconst 1, [], 1),
  (29, 3, .goto 4, [33], 0),
  (32, 1, .iconst 0, [], 0),
  (33, 3, .invokestatic 71, [], 0),
  (36, 1, .aload_n 0, [], 0),
  (37, 3, .getfield 10, [], 0),
  (40, 1, .aload_n 0, [], 0),
  (41, 3, .getfield 10, [], 0),
  (44, 3, .getfield 64, [], 0),
  (47, 3, .getfield 197, [], 0),
  (50, 1, .iload_n 1, [], 0),
  (51, 3, .invokevirtual 107, [], 0),
  (54, 3, .invokevirtual 252, [], 0),
  (57, 1, .ireturn, [], 0)]
theorem kX8_hindrance_ok : kX8_hindrance.all (zck cX8_hindrance) = true := by decide +kernel

def rX8_hindrance : Room := { frames := 7, cells := 2, slots := 12, locals := 110 }
abbrev YX8_hindrance : zM := (RX8, cX8_hindrance, 2, some .int, rX8_hindrance, ULM, zlk fX8, zcs [(233, 2, 0, 0, zvs (ULM) 3 (sF_hasLeft)), (107, 2, 0, 0, zvs (ULM) 7 (sU_at ULM)), (252, 2, 0, 0, zvs (ULM) 1 (sX1_hindranceOf))] [(92, 2, 1, 6, sX8_requireIndex), (71, 1, 1, 6, sX8_requireState)])
theorem YX8_hindrance_ok : zYok (YX8_hindrance) := zYok_of fX8_ok (zall (zcal_mono (zcalV (Y := YX8_hindrance) (y := yX3_hasLeft) (cc := cX3_hasLeft) (nL := 2) (ret := some .boolean) (rm := rX3_hasLeft) (uF_hasLeft) 233 1 3 (T := TX3) rfl wX8_233 ⟨by decide +kernel, by decide +kernel, by decide +kernel⟩ (by decide) ⟨Nat.le_of_ble_eq_true rfl, Nat.le_of_ble_eq_true rfl⟩) (fun _ _ _ _ h => zvs_P h)) (zall (zcal_mono (zcalV (Y := YX8_hindrance) (y := yX7_at) (cc := cX7_at) (nL := 2) (ret := some .int) (rm := rX7_at) (mU_at ULM ULM_small) 107 1 7 (T := TX7) rfl wX8_107 ⟨by decide +kernel, by decide +kernel, by decide +kernel⟩ (by decide) ⟨Nat.le_of_ble_eq_true rfl, Nat.le_of_ble_eq_true rfl⟩) (fun _ _ _ _ h => zvs_P h)) (zall (zcal_mono (zcalV (Y := YX8_hindrance) (y := yX1_hindranceOf) (cc := cX1_hindranceOf) (nL := 5) (ret := some .int) (rm := rX1_hindranceOf) (uX1_hindranceOf) 252 1 1 (T := TX1) rfl wX8_252 ⟨by decide +kernel, by decide +kernel, by decide +kernel⟩ (by decide) ⟨Nat.le_of_ble_eq_true rfl, Nat.le_of_ble_eq_true rfl⟩) (fun _ _ _ _ h => zvs_P h)) znil))) (zall (zcalS (Y := YX8_hindrance) (y := yX8_requireIndex) (cc := cX8_requireIndex) (nL := 2) (ret := none) (rm := rX8_requireIndex) (mX8_requireIndex) 92 2 wX8_92 ⟨by decide +kernel, by decide +kernel, by decide +kernel⟩ (by decide) ⟨Nat.le_of_ble_eq_true rfl, Nat.le_of_ble_eq_true rfl⟩) (zall (zcalS (Y := YX8_hindrance) (y := yX8_requireState) (cc := cX8_requireState) (nL := 1) (ret := none) (rm := rX8_requireState) (mX8_requireState) 71 1 wX8_71 ⟨by decide +kernel, by decide +kernel, by decide +kernel⟩ (by decide) ⟨Nat.le_of_ble_eq_true rfl, Nat.le_of_ble_eq_true rfl⟩) znil))

theorem mX8_hindrance : zMet (ULM) yX8_hindrance cX8_hindrance 2 (some .int) rX8_hindrance (sX8_hindrance) := by
  refine zmet (Y := YX8_hindrance) rfl (by decide +kernel) ?_
  intro av F ok ex h
  unfold sX8_hindrance at h
  split at h
  · rename_i s
    refine zgo_ok (YX8_hindrance_ok) zno kX8_hindrance (List.all_eq_true.mp kX8_hindrance_ok) 0 _ _ _ _ _ ?_
    refine And.intro (fun h1 => ?_) h.2
    have h := h.1 h1
    refine And.intro (fun h2 => zjne1 (zreq0 (h.2 (fun h3 => h3 h2)))) (fun h2 => ?_)
    refine zjne0 ?_
    refine zreq1 ?_
    have h := h.1 h2
    exact h
  · exact h.elim

def kX8_save : List zI := [
  (0, 1, .aload_n 0, [], 0),
  (1, 3, .getfield 19, [], 0),
  (4, 1, .aload_n 0, [], 0),
  (5, 3, .getfield 10, [], 0),
  (8, 3, .invokevirtual 264, [], 0),
  (11, 1, .aload_n 0, [], 0),
  (12, 1, .iconst 1, [], 1),
  (13, 3, .putfield 36, [], 0),
  (16, 1, .return_, [], 0)]
theorem kX8_save_ok : kX8_save.all (zck cX8_save) = true := by decide +kernel

def rX8_save : Room := { frames := 4, cells := 0, slots := 0, locals := 85 }
abbrev YX8_save : zM := (RX8, cX8_save, 1, none, rX8_save, ULM, zlk fX8, zcs [(264, 2, 0, 0, zvs (ULM) 1 (sL_copyFrom))] [])
theorem YX8_save_ok : zYok (YX8_save) := zYok_of fX8_ok (zall (zcal_mono (zcalV (Y := YX8_save) (y := yX1_copyFrom) (cc := cX1_copyFrom) (nL := 2) (ret := none) (rm := rX1_copyFrom) (uL_copyFrom) 264 1 1 (T := TX1) rfl wX8_264 ⟨by decide +kernel, by decide +kernel, by decide +kernel⟩ (by decide) ⟨Nat.le_of_ble_eq_true rfl, Nat.le_of_ble_eq_true rfl⟩) (fun _ _ _ _ h => zvs_P h)) znil) znil

theorem mX8_save : zMet (ULM) yX8_save cX8_save 1 (none) rX8_save (sX8_save) := by
  refine zmet (Y := YX8_save) rfl (by decide +kernel) ?_
  intro av F ok ex h
  unfold sX8_save at h
  split at h
  · refine zgo_ok (YX8_save_ok) zno kX8_save (List.all_eq_true.mp kX8_save_ok) 0 _ _ _ _ _ ?_
    exact Exists.intro (Or.inr rfl) h
  · exact h.elim

def kX8_restore : List zI := [
  (0, 1, .aload_n 0, [], 0),
  (1, 3, .getfield 36, [], 0),
  (4, 3, .invokestatic 71, [], 0),
  (7, 1, .aload_n 0, [], 0),
  (8, 3, .getfield 10, [], 0),
  (11, 1, .aload_n 0, [], 0),
  (12, 3, .getfield 19, [], 0),
  (15, 3, .invokevirtual 264, [], 0),
  (18, 1, .aload_n 0, [], 0),
  (19, 3, .getfield 25, [], 0),
  (22, 3, .invokevirtual 299, [], 0),
  (25, 1, .return_, [], 0)]
theorem kX8_restore_ok : kX8_restore.all (zck cX8_restore) = true := by decide +kernel

def rX8_restore : Room := { frames := 7, cells := 1, slots := 6, locals := 102 }
abbrev YX8_restore : zM := (RX8, cX8_restore, 1, none, rX8_restore, ULM, zlk fX8, zcs [(264, 2, 0, 0, zvs (ULM) 1 (sL_copyFrom)), (299, 1, 0, 0, zvs (ULM) 2 (sX2_forget))] [(71, 1, 1, 6, sX8_requireState)])
theorem YX8_restore_ok : zYok (YX8_restore) := zYok_of fX8_ok (zall (zcal_mono (zcalV (Y := YX8_restore) (y := yX1_copyFrom) (cc := cX1_copyFrom) (nL := 2) (ret := none) (rm := rX1_copyFrom) (uL_copyFrom) 264 1 1 (T := TX1) rfl wX8_264 ⟨by decide +kernel, by decide +kernel, by decide +kernel⟩ (by decide) ⟨Nat.le_of_ble_eq_true rfl, Nat.le_of_ble_eq_true rfl⟩) (fun _ _ _ _ h => zvs_P h)) (zall (zcal_mono (zcalV (Y := YX8_restore) (y := yX2_forget) (cc := cX2_forget) (nL := 1) (ret := none) (rm := rX2_forget) (mX2_forget) 299 0 2 (T := TX2) rfl wX8_299 ⟨by decide +kernel, by decide +kernel, by decide +kernel⟩ (by decide) ⟨Nat.le_of_ble_eq_true rfl, Nat.le_of_ble_eq_true rfl⟩) (fun _ _ _ _ h => zvs_P h)) znil)) (zall (zcalS (Y := YX8_restore) (y := yX8_requireState) (cc := cX8_requireState) (nL := 1) (ret := none) (rm := rX8_requireState) (mX8_requireState) 71 1 wX8_71 ⟨by decide +kernel, by decide +kernel, by decide +kernel⟩ (by decide) ⟨Nat.le_of_ble_eq_true rfl, Nat.le_of_ble_eq_true rfl⟩) znil)

theorem mX8_restore : zMet (ULM) yX8_restore cX8_restore 1 (none) rX8_restore (sX8_restore) := by
  refine zmet (Y := YX8_restore) rfl (by decide +kernel) ?_
  intro av F ok ex h
  unfold sX8_restore at h
  split at h
  · refine zgo_ok (YX8_restore_ok) zno kX8_restore (List.all_eq_true.mp kX8_restore_ok) 0 _ _ _ _ _ ?_
    refine And.intro (fun h1 => ?_) h.2
    exact h.1 h1
  · exact h.elim

def kX8_undo : List zI := [
  (0, 1, .aload_n 0, [], 0),
  (1, 3, .getfield 25, [], 0),
  (4, 3, .getfield 295, [], 0),
  (7, 3, .ifCond .le 7, [14], 0),
  (10, 1, .iconst 1, [], 1),
  (11, 3, .goto 4, [15], 0),
  (14, 1, .iconst 0, [], 0),
  (15, 3, .invokestatic 71, [], 0),
  (18, 1, .aload_n 0, [], 0),
  (19, 3, .getfield 25, [], 0),
  (22, 1, .aload_n 0, [], 0),
  (23, 3, .getfield 10, [], 0),
  (26, 3, .invokevirtual 296, [], 0),
  (29, 1, .aload_n 0, [], 0),
  (30, 3, .getfield 25, [], 0),
  (33, 3, .getfield 295, [], 0),
  (36, 1, .ireturn, [], 0)]
theorem kX8_undo_ok : kX8_undo.all (zck cX8_undo) = true := by decide +kernel

def rX8_undo : Room := { frames := 7, cells := 1, slots := 6, locals := 107 }
abbrev YX8_undo : zM := (RX8, cX8_undo, 1, some .int, rX8_undo, ULM, zlk fX8, zcs [(296, 2, 0, 0, zvs (ULM) 2 (sX2_takeBack))] [(71, 1, 1, 6, sX8_requireState)])
theorem YX8_undo_ok : zYok (YX8_undo) := zYok_of fX8_ok (zall (zcal_mono (zcalV (Y := YX8_undo) (y := yX2_takeBack) (cc := cX2_takeBack) (nL := 3) (ret := none) (rm := rX2_takeBack) (mX2_takeBack) 296 1 2 (T := TX2) rfl wX8_296 ⟨by decide +kernel, by decide +kernel, by decide +kernel⟩ (by decide) ⟨Nat.le_of_ble_eq_true rfl, Nat.le_of_ble_eq_true rfl⟩) (fun _ _ _ _ h => zvs_P h)) znil) (zall (zcalS (Y := YX8_undo) (y := yX8_requireState) (cc := cX8_requireState) (nL := 1) (ret := none) (rm := rX8_requireState) (mX8_requireState) 71 1 wX8_71 ⟨by decide +kernel, by decide +kernel, by decide +kernel⟩ (by decide) ⟨Nat.le_of_ble_eq_true rfl, Nat.le_of_ble_eq_true rfl⟩) znil)

theorem mX8_undo : zMet (ULM) yX8_undo cX8_undo 1 (some .int) rX8_undo (sX8_undo) := by
  refine zmet (Y := YX8_undo) rfl (by decide +kernel) ?_
  intro av F ok ex h
  unfold sX8_undo at h
  split at h
  · refine zgo_ok (YX8_undo_ok) zno kX8_undo (List.all_eq_true.mp kX8_undo_ok) 0 _ _ _ _ _ ?_
    refine And.intro (fun h1 => zreq0 (h.2 (Int32.not_lt.mpr h1))) (fun h1 => ?_)
    refine zreq1 ?_
    have h := h.1 (Int32.not_le.mp h1)
    obtain ⟨kk, hk, h3, h⟩ := h
    refine ⟨kk, hk, h3, ?_⟩
    refine zleaf ok h ?_ rfl
    have h4 : aTb F (zcp F 0 (135 + 45 * kk)) 496 2 = F 496 2 - 1 := by
      unfold aTb
      rw [zup_at]
    show some (Value.int (F 496 2 - 1)) = some (Value.int (aTb F (zcp F 0 (135 + 45 * kk)) 496 2))
    rw [h4]
  · exact h.elim

def kX8_set : List zI := [
  (0, 1, .iload_n 1, [], 0),
  (1, 1, .iconst 3, [], 3),
  (2, 3, .invokestatic 92, [], 0),
  (5, 1, .iload_n 2, [], 0),
  (6, 1, .iload_n 1, [], 0),
  (7, 3, .ifCond .ne 7, [14], 0),
  (10, 1, .iconst 1, [], 1),
  (11, 3, .goto 4, [15], 0),
  (14, 1, .iconst 0, [], 0),
  (15, 1, .iload_n 1, [], 0),
  (16, 3, .invokestatic 96, [], 0),
  (19, 3, .invokestatic 47, [], 0),
  (22, 3, .invokestatic 51, [], 0),
  (25, 1, .aload_n 0, [], 0),
  (26, 3, .getfield 25, [], 0),
  (29, 1, .aload_n 0, [], 0),
  (30, 3, .getfield 10, [], 0),
  (33, 3, .invokevirtual 74, [], 0),
  (36, 1, .aload_n 0, [], 0),
  (37, 3, .getfield 10, [], 0),
  (40, 1, .iload_n 1, [], 0),
  (41, 1, .iload_n 2, [], 0),
  (42, 3, .invokevirtual 100, [], 0),
  (45, 1, .ireturn, [], 0)]
theorem kX8_set_ok : kX8_set.all (zck cX8_set) = true := by decide +kernel

def rX8_set : Room := { frames := 7, cells := 2, slots := 12, locals := 107 }
abbrev YX8_set : zM := (RX8, cX8_set, 3, some .int, rX8_set, ULM, zlk fX8, zcs [(74, 2, 0, 0, zvs (ULM) 2 (sX2_keep)), (100, 3, 0, 0, zvs (ULM) 1 (sX1_change))] [(92, 2, 1, 6, sX8_requireIndex), (96, 1, 0, 0, sX8_mostOfSetting), (47, 3, 0, 0, sX8_isWithin), (51, 1, 1, 6, sX8_requireArgument)])
theorem YX8_set_ok : zYok (YX8_set) := zYok_of fX8_ok (zall (zcal_mono (zcalV (Y := YX8_set) (y := yX2_keep) (cc := cX2_keep) (nL := 3) (ret := none) (rm := rX2_keep) (mX2_keep) 74 1 2 (T := TX2) rfl wX8_74 ⟨by decide +kernel, by decide +kernel, by decide +kernel⟩ (by decide) ⟨Nat.le_of_ble_eq_true rfl, Nat.le_of_ble_eq_true rfl⟩) (fun _ _ _ _ h => zvs_P h)) (zall (zcal_mono (zcalV (Y := YX8_set) (y := yX1_change) (cc := cX1_change) (nL := 4) (ret := some .int) (rm := rX1_change) (uX1_change) 100 2 1 (T := TX1) rfl wX8_100 ⟨by decide +kernel, by decide +kernel, by decide +kernel⟩ (by decide) ⟨Nat.le_of_ble_eq_true rfl, Nat.le_of_ble_eq_true rfl⟩) (fun _ _ _ _ h => zvs_P h)) znil)) (zall (zcalS (Y := YX8_set) (y := yX8_requireIndex) (cc := cX8_requireIndex) (nL := 2) (ret := none) (rm := rX8_requireIndex) (mX8_requireIndex) 92 2 wX8_92 ⟨by decide +kernel, by decide +kernel, by decide +kernel⟩ (by decide) ⟨Nat.le_of_ble_eq_true rfl, Nat.le_of_ble_eq_true rfl⟩) (zall (zcalS (Y := YX8_set) (y := yX8_mostOfSetting) (cc := cX8_mostOfSetting) (nL := 1) (ret := some .int) (rm := rX8_mostOfSetting) (mX8_mostOfSetting) 96 1 wX8_96 ⟨by decide +kernel, by decide +kernel, by decide +kernel⟩ (by decide) ⟨Nat.le_of_ble_eq_true rfl, Nat.le_of_ble_eq_true rfl⟩) (zall (zcalS (Y := YX8_set) (y := yX8_isWithin) (cc := cX8_isWithin) (nL := 3) (ret := some .boolean) (rm := rX8_isWithin) (mX8_isWithin) 47 3 wX8_47 ⟨by decide +kernel, by decide +kernel, by decide +kernel⟩ (by decide) ⟨Nat.le_of_ble_eq_true rfl, Nat.le_of_ble_eq_true rfl⟩) (zall (zcalS (Y := YX8_set) (y := yX8_requireArgument) (cc := cX8_requireArgument) (nL := 1) (ret := none) (rm := rX8_requireArgument) (mX8_requireArgument) 51 1 wX8_51 ⟨by decide +kernel, by decide +kernel, by decide +kernel⟩ (by decide) ⟨Nat.le_of_ble_eq_true rfl, Nat.le_of_ble_eq_true rfl⟩) znil))))

theorem mX8_set : zMet (ULM) yX8_set cX8_set 3 (some .int) rX8_set (sX8_set) := by
  refine zmet (Y := YX8_set) rfl (by decide +kernel) ?_
  intro av F ok ex h
  unfold sX8_set at h
  split at h
  · rename_i s v
    refine zgo_ok (YX8_set_ok) zno kX8_set (List.all_eq_true.mp kX8_set_ok) 0 _ _ _ _ _ ?_
    refine And.intro (fun h1 => ?_) h.2
    have h := h.1 h1
    have hb : (s = 0 → (1 : Int32) = if s = 0 then 1 else 0) ∧ (¬ s = 0 → (0 : Int32) = if s = 0 then 1 else 0) := ⟨fun h0 => (if_pos h0).symm, fun h0 => (if_neg h0).symm⟩
    refine And.intro (fun h0 => ?_) (fun h0 => ?_)
    · have h0 : ¬ s = 0 := h0
      rw [← hb.2 h0] at h
      refine And.intro (fun h2 => ?_) (fun h2 => zreq0 (h.2 h2))
      refine zreq1 ?_
      exact h.1 h2
    · have h0 : s = 0 := h0
      rw [← hb.1 h0] at h
      refine And.intro (fun h2 => ?_) (fun h2 => zreq0 (h.2 h2))
      refine zreq1 ?_
      exact h.1 h2
  · exact h.elim

def kX8_addShip : List zI := [
  (0, 1, .iload_n 1, [], 0),
  (1, 1, .iconst 1, [], 1),
  (2, 2, .bipush 9, [], 9),
  (4, 3, .invokestatic 47, [], 0),
  (7, 3, .ifCond .eq 26, [33], 0),
  (10, 1, .iload_n 2, [], 0),
  (11, 1, .iconst 1, [], 1),
  (12, 2, .bipush 99, [], 99),
  (14, 3, .invokestatic 47, [], 0),
  (17, 3, .ifCond .eq 16, [33], 0),
  (20, 1, .iload_n 3, [], 0),
  (21, 1, .iconst 0, [], 0),
  (22, 1, .iconst 3, [], 3),
  (23, 3, .invokestatic 47, [], 0),
  (26, 3, .ifCond .eq 7, [33], 0),
  (29, 1, .iconst 1, [], 1),
  (30, 3, .goto 4, [34], 0),
  (33, 1, .iconst 0, [], 0),
  (34, 3, .invokestatic 51, [], 0),
  (37, 1, .aload_n 0, [], 0),
  (38, 1, .aload_n 0, [], 0),
  (39, 1, .iconst 1, [], 1),
  (40, 3, .invokevirtual 158, [], 0),
  (43, 3, .invokevirtual 161, [], 0),
  (46, 1, .aload_n 0, [], 0),
  (47, 3, .getfield 25, [], 0),
  (50, 1, .aload_n 0, [], 0),
  (51, 3, .getfield 10, [], 0),
  (54, 3, .invokevirtual 74, [], 0),
  (57, 1, .aload_n 0, [], 0),
  (58, 3, .getfield 10, [], 0),
  (61, 1, .iload_n 1, [], 0),
  (62, 1, .iload_n 2, [], 0),
  (63, 1, .iload_n 3, [], 0),
  (64, 2, .iload 4, [], 0),
  (66, 3, .invokevirtual 165, [], 0),
  (69, 1, .ireturn, [], 0)]
theorem kX8_addShip_ok : kX8_addShip.all (zck cX8_addShip) = true := by decide +kernel

def rX8_addShip : Room := { frames := 7, cells := 2, slots := 12, locals := 107 }
abbrev YX8_addShip : zM := (RX8, cX8_addShip, 5, some .int, rX8_addShip, ULM, zlk fX8, zcs [(158, 2, 0, 0, zvs (ULM) 8 (sX8_refusalOfShips)), (161, 2, 1, 6, zvs (ULM) 8 (sX8_refuseFor)), (74, 2, 0, 0, zvs (ULM) 2 (sX2_keep)), (165, 5, 0, 0, zvs (ULM) 1 (sX1_makeShip))] [(47, 3, 0, 0, sX8_isWithin), (51, 1, 1, 6, sX8_requireArgument)])
theorem YX8_addShip_ok : zYok (YX8_addShip) := zYok_of fX8_ok (zall (zcal_mono (zcalV (Y := YX8_addShip) (y := yX8_refusalOfShips) (cc := cX8_refusalOfShips) (nL := 2) (ret := some .int) (rm := rX8_refusalOfShips) (mX8_refusalOfShips) 158 1 8 (T := TX8) rfl wX8_158 ⟨by decide +kernel, by decide +kernel, by decide +kernel⟩ (by decide) ⟨Nat.le_of_ble_eq_true rfl, Nat.le_of_ble_eq_true rfl⟩) (fun _ _ _ _ h => zvs_P h)) (zall (zcal_mono (zcalV (Y := YX8_addShip) (y := yX8_refuseFor) (cc := cX8_refuseFor) (nL := 2) (ret := none) (rm := rX8_refuseFor) (mX8_refuseFor) 161 1 8 (T := TX8) rfl wX8_161 ⟨by decide +kernel, by decide +kernel, by decide +kernel⟩ (by decide) ⟨Nat.le_of_ble_eq_true rfl, Nat.le_of_ble_eq_true rfl⟩) (fun _ _ _ _ h => zvs_P h)) (zall (zcal_mono (zcalV (Y := YX8_addShip) (y := yX2_keep) (cc := cX2_keep) (nL := 3) (ret := none) (rm := rX2_keep) (mX2_keep) 74 1 2 (T := TX2) rfl wX8_74 ⟨by decide +kernel, by decide +kernel, by decide +kernel⟩ (by decide) ⟨Nat.le_of_ble_eq_true rfl, Nat.le_of_ble_eq_true rfl⟩) (fun _ _ _ _ h => zvs_P h)) (zall (zcal_mono (zcalV (Y := YX8_addShip) (y := yX1_makeShip) (cc := cX1_makeShip) (nL := 6) (ret := some .int) (rm := rX1_makeShip) (uX1_makeShip) 165 4 1 (T := TX1) rfl wX8_165 ⟨by decide +kernel, by decide +kernel, by decide +kernel⟩ (by decide) ⟨Nat.le_of_ble_eq_true rfl, Nat.le_of_ble_eq_true rfl⟩) (fun _ _ _ _ h => zvs_P h)) znil)))) (zall (zcalS (Y := YX8_addShip) (y := yX8_isWithin) (cc := cX8_isWithin) (nL := 3) (ret := some .boolean) (rm := rX8_isWithin) (mX8_isWithin) 47 3 wX8_47 ⟨by decide +kernel, by decide +kernel, by decide +kernel⟩ (by decide) ⟨Nat.le_of_ble_eq_true rfl, Nat.le_of_ble_eq_true rfl⟩) (zall (zcalS (Y := YX8_addShip) (y := yX8_requireArgument) (cc := cX8_requireArgument) (nL := 1) (ret := none) (rm := rX8_requireArgument) (mX8_requireArgument) 51 1 wX8_51 ⟨by decide +kernel, by decide +kernel, by decide +kernel⟩ (by decide) ⟨Nat.le_of_ble_eq_true rfl, Nat.le_of_ble_eq_true rfl⟩) znil))

theorem mX8_addShip : zMet (ULM) yX8_addShip cX8_addShip 5 (some .int) rX8_addShip (sX8_addShip) := by
  refine zmet (Y := YX8_addShip) rfl (by decide +kernel) ?_
  intro av F ok ex h
  unfold sX8_addShip at h
  split at h
  · rename_i s d r b
    refine zgo_ok (YX8_addShip_ok) zno kX8_addShip (List.all_eq_true.mp kX8_addShip_ok) 0 _ _ _ _ _ ?_
    refine And.intro (fun h1 => ?_) (fun h1 => zjeq0 (zreq0 (h.2 fun h0 => h1 h0.1)))
    refine zjeq1 ?_
    refine And.intro (fun h2 => ?_) (fun h2 => zjeq0 (zreq0 (h.2 fun h0 => h2 h0.2.1)))
    refine zjeq1 ?_
    refine And.intro (fun h3 => ?_) (fun h3 => zjeq0 (zreq0 (h.2 fun h0 => h3 h0.2.2)))
    refine zjeq1 ?_
    refine zreq1 ?_
    exact h.1 ⟨h1, h2, h3⟩
  · exact h.elim

def kX8_join : List zI := [
  (0, 1, .aload_n 0, [], 0),
  (1, 1, .aload_n 0, [], 0),
  (2, 1, .iload_n 1, [], 0),
  (3, 1, .iload_n 2, [], 0),
  (4, 3, .invokevirtual 194, [], 0),
  (7, 3, .invokevirtual 161, [], 0),
  (10, 1, .aload_n 0, [], 0),
  (11, 3, .getfield 25, [], 0),
  (14, 1, .aload_n 0, [], 0),
  (15, 3, .getfield 10, [], 0),
  (18, 3, .invokevirtual 74, [], 0),
  (21, 1, .aload_n 0, [], 0),
  (22, 3, .getfield 10, [], 0),
  (25, 3, .getfield 64, [], 0),
  (28, 1, .aload_n 0, [], 0),
  (29, 3, .getfield 10, [], 0),
  (32, 3, .getfield 64, [], 0),
  (35, 3, .getfield 197, [], 0),
  (38, 1, .iload_n 2, [], 0),
  (39, 3, .invokevirtual 107, [], 0),
  (42, 1, .aload_n 0, [], 0),
  (43, 3, .getfield 10, [], 0),
  (46, 3, .getfield 64, [], 0),
  (49, 3, .getfield 197, [], 0),
  (52, 1, .iload_n 1, [], 0),
  (53, 3, .invokevirtual 107, [], 0),
  (56, 3, .invokevirtual 200, [], 0),
  (59, 1, .aload_n 0, [], 0),
  (60, 3, .getfield 10, [], 0),
  (63, 3, .getfield 64, [], 0),
  (66, 1, .iload_n 2, [], 0),
  (67, 3, .invokevirtual 203, [], 0),
  (70, 1, .ireturn, [], 0)]
theorem kX8_join_ok : kX8_join.all (zck cX8_join) = true := by decide +kernel

def rX8_join : Room := { frames := 7, cells := 1, slots := 6, locals := 107 }
abbrev YX8_join : zM := (RX8, cX8_join, 3, some .int, rX8_join, ULM, zlk fX8, zcs [(194, 3, 0, 0, zvs (ULM) 8 (sX8_refusalOfJoin)), (161, 2, 1, 6, zvs (ULM) 8 (sX8_refuseFor)), (74, 2, 0, 0, zvs (ULM) 2 (sX2_keep)), (107, 2, 0, 0, zvs (ULM) 7 (sU_at ULM)), (200, 3, 0, 0, zvs (ULM) 3 (sX3_joinBehind)), (203, 2, 0, 0, zvs (ULM) 3 (sX3_shipsInConvoy))] [])
theorem YX8_join_ok : zYok (YX8_join) := zYok_of fX8_ok (zall (zcal_mono (zcalV (Y := YX8_join) (y := yX8_refusalOfJoin) (cc := cX8_refusalOfJoin) (nL := 5) (ret := some .int) (rm := rX8_refusalOfJoin) (mX8_refusalOfJoin) 194 2 8 (T := TX8) rfl wX8_194 ⟨by decide +kernel, by decide +kernel, by decide +kernel⟩ (by decide) ⟨Nat.le_of_ble_eq_true rfl, Nat.le_of_ble_eq_true rfl⟩) (fun _ _ _ _ h => zvs_P h)) (zall (zcal_mono (zcalV (Y := YX8_join) (y := yX8_refuseFor) (cc := cX8_refuseFor) (nL := 2) (ret := none) (rm := rX8_refuseFor) (mX8_refuseFor) 161 1 8 (T := TX8) rfl wX8_161 ⟨by decide +kernel, by decide +kernel, by decide +kernel⟩ (by decide) ⟨Nat.le_of_ble_eq_true rfl, Nat.le_of_ble_eq_true rfl⟩) (fun _ _ _ _ h => zvs_P h)) (zall (zcal_mono (zcalV (Y := YX8_join) (y := yX2_keep) (cc := cX2_keep) (nL := 3) (ret := none) (rm := rX2_keep) (mX2_keep) 74 1 2 (T := TX2) rfl wX8_74 ⟨by decide +kernel, by decide +kernel, by decide +kernel⟩ (by decide) ⟨Nat.le_of_ble_eq_true rfl, Nat.le_of_ble_eq_true rfl⟩) (fun _ _ _ _ h => zvs_P h)) (zall (zcal_mono (zcalV (Y := YX8_join) (y := yX7_at) (cc := cX7_at) (nL := 2) (ret := some .int) (rm := rX7_at) (mU_at ULM ULM_small) 107 1 7 (T := TX7) rfl wX8_107 ⟨by decide +kernel, by decide +kernel, by decide +kernel⟩ (by decide) ⟨Nat.le_of_ble_eq_true rfl, Nat.le_of_ble_eq_true rfl⟩) (fun _ _ _ _ h => zvs_P h)) (zall (zcal_mono (zcalV (Y := YX8_join) (y := yX3_joinBehind) (cc := cX3_joinBehind) (nL := 3) (ret := none) (rm := rX3_joinBehind) (uX3_joinBehind) 200 2 3 (T := TX3) rfl wX8_200 ⟨by decide +kernel, by decide +kernel, by decide +kernel⟩ (by decide) ⟨Nat.le_of_ble_eq_true rfl, Nat.le_of_ble_eq_true rfl⟩) (fun _ _ _ _ h => zvs_P h)) (zall (zcal_mono (zcalV (Y := YX8_join) (y := yX3_shipsInConvoy) (cc := cX3_shipsInConvoy) (nL := 4) (ret := some .int) (rm := rX3_shipsInConvoy) (uX3_shipsInConvoy) 203 1 3 (T := TX3) rfl wX8_203 ⟨by decide +kernel, by decide +kernel, by decide +kernel⟩ (by decide) ⟨Nat.le_of_ble_eq_true rfl, Nat.le_of_ble_eq_true rfl⟩) (fun _ _ _ _ h => zvs_P h)) znil)))))) znil

theorem mX8_join : zMet (ULM) yX8_join cX8_join 3 (some .int) rX8_join (sX8_join) := by
  refine zmet (Y := YX8_join) rfl (by decide +kernel) ?_
  intro av F ok ex h
  unfold sX8_join at h
  split at h
  · rename_i s t
    refine zgo_ok (YX8_join_ok) zno kX8_join (List.all_eq_true.mp kX8_join_ok) 0 _ _ _ _ _ ?_
    refine And.intro (fun h1 => ?_) h.2
    exact h.1 h1
  · exact h.elim

def kX8_part : List zI := [
  (0, 1, .aload_n 0, [], 0),
  (1, 1, .aload_n 0, [], 0),
  (2, 1, .iload_n 1, [], 0),
  (3, 3, .invokevirtual 206, [], 0),
  (6, 3, .invokevirtual 161, [], 0),
  (9, 1, .aload_n 0, [], 0),
  (10, 3, .getfield 25, [], 0),
  (13, 1, .aload_n 0, [], 0),
  (14, 3, .getfield 10, [], 0),
  (17, 3, .invokevirtual 74, [], 0),
  (20, 1, .aload_n 0, [], 0),
  (21, 3, .getfield 10, [], 0),
  (24, 3, .getfield 64, [], 0),
  (27, 1, .iload_n 1, [], 0),
  (28, 3, .invokevirtual 203, [], 0),
  (31, 1, .istore_n 2, [], 0),
  (32, 1, .aload_n 0, [], 0),
  (33, 3, .getfield 10, [], 0),
  (36, 3, .getfield 64, [], 0),
  (39, 1, .iload_n 1, [], 0),
  (40, 3, .invokevirtual 209, [], 0),
  (43, 1, .iload_n 2, [], 0),
  (44, 1, .iconst 1, [], 1),
  (45, 1, .isub, [], 0),
  (46, 1, .ireturn, [], 0)]
theorem kX8_part_ok : kX8_part.all (zck cX8_part) = true := by decide +kernel

def rX8_part : Room := { frames := 7, cells := 1, slots := 6, locals := 107 }
abbrev YX8_part : zM := (RX8, cX8_part, 3, some .int, rX8_part, ULM, zlk fX8, zcs [(206, 2, 0, 0, zvs (ULM) 8 (sX8_refusalOfPart)), (161, 2, 1, 6, zvs (ULM) 8 (sX8_refuseFor)), (74, 2, 0, 0, zvs (ULM) 2 (sX2_keep)), (203, 2, 0, 0, zvs (ULM) 3 (sX3_shipsInConvoy)), (209, 2, 0, 0, zvs (ULM) 3 (sX3_takeOut))] [])
theorem YX8_part_ok : zYok (YX8_part) := zYok_of fX8_ok (zall (zcal_mono (zcalV (Y := YX8_part) (y := yX8_refusalOfPart) (cc := cX8_refusalOfPart) (nL := 2) (ret := some .int) (rm := rX8_refusalOfPart) (mX8_refusalOfPart) 206 1 8 (T := TX8) rfl wX8_206 ⟨by decide +kernel, by decide +kernel, by decide +kernel⟩ (by decide) ⟨Nat.le_of_ble_eq_true rfl, Nat.le_of_ble_eq_true rfl⟩) (fun _ _ _ _ h => zvs_P h)) (zall (zcal_mono (zcalV (Y := YX8_part) (y := yX8_refuseFor) (cc := cX8_refuseFor) (nL := 2) (ret := none) (rm := rX8_refuseFor) (mX8_refuseFor) 161 1 8 (T := TX8) rfl wX8_161 ⟨by decide +kernel, by decide +kernel, by decide +kernel⟩ (by decide) ⟨Nat.le_of_ble_eq_true rfl, Nat.le_of_ble_eq_true rfl⟩) (fun _ _ _ _ h => zvs_P h)) (zall (zcal_mono (zcalV (Y := YX8_part) (y := yX2_keep) (cc := cX2_keep) (nL := 3) (ret := none) (rm := rX2_keep) (mX2_keep) 74 1 2 (T := TX2) rfl wX8_74 ⟨by decide +kernel, by decide +kernel, by decide +kernel⟩ (by decide) ⟨Nat.le_of_ble_eq_true rfl, Nat.le_of_ble_eq_true rfl⟩) (fun _ _ _ _ h => zvs_P h)) (zall (zcal_mono (zcalV (Y := YX8_part) (y := yX3_shipsInConvoy) (cc := cX3_shipsInConvoy) (nL := 4) (ret := some .int) (rm := rX3_shipsInConvoy) (uX3_shipsInConvoy) 203 1 3 (T := TX3) rfl wX8_203 ⟨by decide +kernel, by decide +kernel, by decide +kernel⟩ (by decide) ⟨Nat.le_of_ble_eq_true rfl, Nat.le_of_ble_eq_true rfl⟩) (fun _ _ _ _ h => zvs_P h)) (zall (zcal_mono (zcalV (Y := YX8_part) (y := yX3_takeOut) (cc := cX3_takeOut) (nL := 4) (ret := none) (rm := rX3_takeOut) (uX3_takeOut) 209 1 3 (T := TX3) rfl wX8_209 ⟨by decide +kernel, by decide +kernel, by decide +kernel⟩ (by decide) ⟨Nat.le_of_ble_eq_true rfl, Nat.le_of_ble_eq_true rfl⟩) (fun _ _ _ _ h => zvs_P h)) znil))))) znil

theorem mX8_part : zMet (ULM) yX8_part cX8_part 3 (some .int) rX8_part (sX8_part) := by
  refine zmet (Y := YX8_part) rfl (by decide +kernel) ?_
  intro av F ok ex h
  unfold sX8_part at h
  split at h
  · rename_i s
    refine zgo_ok (YX8_part_ok) zno kX8_part (List.all_eq_true.mp kX8_part_ok) 0 _ _ _ _ _ ?_
    refine And.intro (fun h1 => ?_) h.2
    exact h.1 h1
  · exact h.elim

def kX8_meanLocked : List zI := [
  (0, 1, .aload_n 0, [], 0),
  (1, 3, .getfield 10, [], 0),
  (4, 3, .getfield 78, [], 0),
  (7, 3, .getfield 155, [], 0),
  (10, 3, .invokevirtual 270, [], 0),
  (13, 1, .istore_n 1, [], 0),
  (14, 1, .iload_n 1, [], 0),
  (15, 3, .ifCond .ne 14, [29], 0),
  (18, 3, .new 288, [], 0),
  (21, 1, .dup, [], 0),
  (22, 3, .ldc_w 290, [], 0),
  (25, 3, .invokespecial 292, [], 0),
  (28, 1, .athrow, [], 0),
  (29, 1, .aload_n 0, [], 0),
  (30, 3, .getfield 10, [], 0),
  (33, 3, .getfield 78, [], 0),
  (36, 3, .getfield 152, [], 0),
  (39, 3, .invokevirtual 270, [], 0),
  (42, 1, .i2d, [], 0),
  (43, 1, .iload_n 1, [], 0),
  (44, 1, .i2d, [], 0),
  (45, 1, .ddiv, [], 0),
  (46, 1, .dreturn, [], 0)]
theorem kX8_meanLocked_ok : kX8_meanLocked.all (zck cX8_meanLocked) = true := by decide +kernel

def rX8_meanLocked : Room := { frames := 6, cells := 1, slots := 6, locals := 82 }
abbrev YX8_meanLocked : zM := (RX8, cX8_meanLocked, 2, some .double, rX8_meanLocked, ULM, zlk fX8, zcs [(270, 1, 0, 0, zvs (ULM) 7 (sU_sum ULM))] [])
theorem YX8_meanLocked_ok : zYok (YX8_meanLocked) := zYok_of fX8_ok (zall (zcal_mono (zcalV (Y := YX8_meanLocked) (y := yX7_sum) (cc := cX7_sum) (nL := 3) (ret := some .int) (rm := rX7_sum) (mU_sum ULM ULM_small) 270 0 7 (T := TX7) rfl wX8_270 ⟨by decide +kernel, by decide +kernel, by decide +kernel⟩ (by decide) ⟨Nat.le_of_ble_eq_true rfl, Nat.le_of_ble_eq_true rfl⟩) (fun _ _ _ _ h => zvs_P h)) znil) znil

theorem mX8_meanLocked : zMet (ULM) yX8_meanLocked cX8_meanLocked 2 (some .double) rX8_meanLocked (sX8_meanLocked) := by
  refine zmet (Y := YX8_meanLocked) rfl (by decide +kernel) ?_
  intro av F ok ex h
  unfold sX8_meanLocked at h
  split at h
  · refine zgo_ok (YX8_meanLocked_ok) (inv := zi1 18 (fun ls st kc ks G => zWP YX8_meanLocked ok ex 18 ls st kc ks G)) (zone fun _ _ _ _ _ h => h) kX8_meanLocked (List.all_eq_true.mp kX8_meanLocked_ok) 0 _ _ _ _ _ ?_
    refine And.intro (fun h1 => h.1 h1) (fun h1 => ?_)
    exact (zthrow (Y := YX8_meanLocked) (ik := 288) (is := 290) (ic := 292) (E := "java/lang/ArithmeticException") (text := "there was no locking") (names := ["java/lang/RuntimeException", "java/lang/Exception"]) (by decide +kernel) (by decide +kernel) (by decide +kernel) (zmem_of (by decide +kernel)) (zmem_of (by decide +kernel)) (by decide +kernel) (by decide +kernel) (by decide +kernel) (by decide +kernel) (by decide +kernel) (by decide +kernel) (by decide +kernel) (by decide) (by decide) (by decide) (by decide) (h.2 fun h0 => h0 h1))
  · exact h.elim

theorem aKp_13 (F : zF) (k : Nat) : zcp (aKp F) (135 + 45 * k) 0 1 3 = F 1 3 := by
  rw [zcp_out _ _ _ (by omega)]
  unfold aKp
  rw [zup_ne _ _ _ (by decide), zup_ne _ _ _ (by decide)]

def kX8_addReach : List zI := [
  (0, 1, .iload_n 1, [], 0),
  (1, 1, .iconst 1, [], 1),
  (2, 2, .bipush 9, [], 9),
  (4, 3, .invokestatic 47, [], 0),
  (7, 3, .ifCond .eq 18, [25], 0),
  (10, 1, .iload_n 2, [], 0),
  (11, 2, .bipush 10, [], 10),
  (13, 2, .bipush 99, [], 99),
  (15, 3, .invokestatic 47, [], 0),
  (18, 3, .ifCond .eq 7, [25], 0),
  (21, 1, .iconst 1, [], 1),
  (22, 3, .goto 4, [26], 0),
  (25, 1, .iconst 0, [], 0),
  (26, 3, .invokestatic 51, [], 0),
  (29, 1, .aload_n 0, [], 0),
  (30, 3, .getfield 10, [], 0),
  (33, 3, .getfield 55, [], 0),
  (36, 3, .getfield 59, [], 0),
  (39, 3, .ifCond .le 7, [46], 0),
  (42, 1, .iconst 1, [], 1),
  (43, 3, .goto 4, [47], 0),
  (46, 1, .iconst 0, [], 0),
  (47, 2, .istore 6, [], 0),
  (49, 2, .iload 6, [], 0),
  (51, 3, .ifCond .eq 34, [85], 0),
  (54, 1, .iload_n 3, [], 0),
  (55, 1, .iconst 1, [], 1),
  (56, 2, .bipush 9, [], 9),
  (58, 3, .invokestatic 47, [], 0),
  (61, 3, .ifCond .eq 28, [89], 0),
  (64, 2, .iload 4, [], 0),
  (66, 1, .iconst 4, [], 4),
  (67, 2, .bipush 60, [], 60),
  (69, 3, .invokestatic 47, [], 0),
  (72, 3, .ifCond .eq 17, [89], 0),
  (75, 2, .iload 5, [], 0),
  (77, 1, .iconst 0, [], 0),
  (78, 1, .iconst 3, [], 3),
  (79, 3, .invokestatic 47, [], 0),
  (82, 3, .ifCond .eq 7, [89], 0),
  (85, 1, .iconst 1, [], 1),
  (86, 3, .goto 4, [90], 0),
  (89, 1, .iconst 0, [], 0),
  (90, 3, .invokestatic 51, [], 0),
  (93, 1, .aload_n 0, [], 0),
  (94, 3, .getfield 10, [], 0),
  (97, 3, .getfield 55, [], 0),
  (100, 3, .getfield 59, [], 0),
  (103, 1, .iconst 5, [], 5),
  (104, 3, .if_icmp .ge 20, [124], 0),
  (107, 1, .aload_n 0, [], 0),
  (108, 3, .getfield 10, [], 0),
  (111, 3, .getfield 64, [], 0),
  (114, 3, .getfield 68, [], 0),
  (117, 3, .ifCond .ne 7, [124], 0),
  (120, 1, .iconst 1, [], 1),
  (121, 3, .goto 4, [125], 0),
  (124, 1, .iconst 0, [], 0),
  (125, 3, .invokestatic 71, [], 0),
  (128, 1, .aload_n 0, [], 0),
  (129, 3, .getfield 25, [], 0),
  (132, 1, .aload_n 0, [], 0),
  (133, 3, .getfield 10, [], 0),
  (136, 3, .invokevirtual 74, [], 0),
  (139, 2, .iload 6, [], 0),
  (141, 3, .ifCond .eq 18, [159], 0),
  (144, 1, .aload_n 0, [], 0),
  (145, 3, .getfield 10, [], 0),
  (148, 3, .getfield 78, [], 0),
  (151, 1, .iload_n 3, [], 0),
  (152, 2, .iload 4, [], 0),
  (154, 2, .iload 5, [], 0),
  (156, 3, .invokevirtual 82, [], 0),
  (159, 1, .aload_n 0, [], 0),
  (160, 3, .getfield 10, [], 0),
  (163, 1, .iload_n 1, [], 0),
  (164, 1, .iload_n 2, [], 0),
  (165, 3, .invokevirtual 88, [], 0),
  (168, 1, .ireturn, [], 0)]
theorem kX8_addReach_ok : kX8_addReach.all (zck cX8_addReach) = true := by decide +kernel

def rX8_addReach : Room := { frames := 7, cells := 3, slots := 18, locals := 107 }
abbrev YX8_addReach : zM := (RX8, cX8_addReach, 7, some .int, rX8_addReach, ULM, zlk fX8, zcs [(74, 2, 0, 0, zvs (ULM) 2 (sX2_keep)), (82, 4, 0, 0, zvs (ULM) 5 (sX5_make)), (88, 3, 0, 0, zvs (ULM) 1 (sX1_makeReach))] [(47, 3, 0, 0, sX8_isWithin), (51, 1, 1, 6, sX8_requireArgument), (71, 1, 1, 6, sX8_requireState)])
theorem YX8_addReach_ok : zYok (YX8_addReach) := zYok_of fX8_ok (zall (zcal_mono (zcalV (Y := YX8_addReach) (y := yX2_keep) (cc := cX2_keep) (nL := 3) (ret := none) (rm := rX2_keep) (mX2_keep) 74 1 2 (T := TX2) rfl wX8_74 ⟨by decide +kernel, by decide +kernel, by decide +kernel⟩ (by decide) ⟨Nat.le_of_ble_eq_true rfl, Nat.le_of_ble_eq_true rfl⟩) (fun _ _ _ _ h => zvs_P h)) (zall (zcal_mono (zcalV (Y := YX8_addReach) (y := yX5_make) (cc := cX5_make) (nL := 4) (ret := none) (rm := rX5_make) (uX5_make) 82 3 5 (T := TX5) rfl wX8_82 ⟨by decide +kernel, by decide +kernel, by decide +kernel⟩ (by decide) ⟨Nat.le_of_ble_eq_true rfl, Nat.le_of_ble_eq_true rfl⟩) (fun _ _ _ _ h => zvs_P h)) (zall (zcal_mono (zcalV (Y := YX8_addReach) (y := yX1_makeReach) (cc := cX1_makeReach) (nL := 3) (ret := some .int) (rm := rX1_makeReach) (uX1_makeReach) 88 2 1 (T := TX1) rfl wX8_88 ⟨by decide +kernel, by decide +kernel, by decide +kernel⟩ (by decide) ⟨Nat.le_of_ble_eq_true rfl, Nat.le_of_ble_eq_true rfl⟩) (fun _ _ _ _ h => zvs_P h)) znil))) (zall (zcalS (Y := YX8_addReach) (y := yX8_isWithin) (cc := cX8_isWithin) (nL := 3) (ret := some .boolean) (rm := rX8_isWithin) (mX8_isWithin) 47 3 wX8_47 ⟨by decide +kernel, by decide +kernel, by decide +kernel⟩ (by decide) ⟨Nat.le_of_ble_eq_true rfl, Nat.le_of_ble_eq_true rfl⟩) (zall (zcalS (Y := YX8_addReach) (y := yX8_requireArgument) (cc := cX8_requireArgument) (nL := 1) (ret := none) (rm := rX8_requireArgument) (mX8_requireArgument) 51 1 wX8_51 ⟨by decide +kernel, by decide +kernel, by decide +kernel⟩ (by decide) ⟨Nat.le_of_ble_eq_true rfl, Nat.le_of_ble_eq_true rfl⟩) (zall (zcalS (Y := YX8_addReach) (y := yX8_requireState) (cc := cX8_requireState) (nL := 1) (ret := none) (rm := rX8_requireState) (mX8_requireState) 71 1 wX8_71 ⟨by decide +kernel, by decide +kernel, by decide +kernel⟩ (by decide) ⟨Nat.le_of_ble_eq_true rfl, Nat.le_of_ble_eq_true rfl⟩) znil)))

theorem mX8_addReach : zMet (ULM) yX8_addReach cX8_addReach 7 (some .int) rX8_addReach (sX8_addReach) := by
  refine zmet (Y := YX8_addReach) rfl (by decide +kernel) ?_
  intro av F ok ex h
  unfold sX8_addReach at h
  split at h
  · rename_i a l n m b
    refine zgo_ok (YX8_addReach_ok) zno kX8_addReach (List.all_eq_true.mp kX8_addReach_ok) 0 _ _ _ _ _ ?_
    refine And.intro (fun h1 => ?_) (fun h1 => zjeq0 (zreq0 (h.2 fun h0 => h1 h0.1)))
    refine zjeq1 ?_
    refine And.intro (fun h2 => ?_) (fun h2 => zjeq0 (zreq0 (h.2 fun h0 => h2 h0.2)))
    refine zjeq1 ?_
    refine zreq1 ?_
    have h := h.1 ⟨h1, h2⟩
    refine And.intro (fun h3 => ?_) (fun h3 => ?_)
    · have h3 : ¬ 0 < F 1 3 := Int32.not_lt.mpr h3
      refine zjeq0 ?_
      refine zreq1 ?_
      have h := h.1 (fun h0 => absurd h0 h3)
      refine And.intro (fun h4 => zreq0 (h.2 fun h0 => absurd h0.1 (Int32.not_lt.mpr h4))) (fun h4 => ?_)
      refine And.intro (fun h5 => zreq0 (h.2 fun h0 => h5 h0.2)) (fun h5 => ?_)
      refine zreq1 ?_
      have h := h.1 ⟨Int32.not_le.mp h4, h5⟩
      rw [decide_eq_false h3] at h
      obtain ⟨kk, hk, h6, h⟩ := h
      refine ⟨kk, hk, h6, ?_⟩
      refine zjeq0 ?_
      exact h
    · have h3 : 0 < F 1 3 := Int32.not_le.mp h3
      refine zjeq1 ?_
      refine And.intro (fun h4 => ?_) (fun h4 => zjeq0 (zreq0 (h.2 fun h0 => h4 (h0 h3).1)))
      refine zjeq1 ?_
      refine And.intro (fun h5 => ?_) (fun h5 => zjeq0 (zreq0 (h.2 fun h0 => h5 (h0 h3).2.1)))
      refine zjeq1 ?_
      refine And.intro (fun h6 => ?_) (fun h6 => zjeq0 (zreq0 (h.2 fun h0 => h6 (h0 h3).2.2)))
      refine zjeq1 ?_
      refine zreq1 ?_
      have h := h.1 (fun _ => ⟨h4, h5, h6⟩)
      refine And.intro (fun h4 => zreq0 (h.2 fun h0 => absurd h0.1 (Int32.not_lt.mpr h4))) (fun h4 => ?_)
      refine And.intro (fun h5 => zreq0 (h.2 fun h0 => h5 h0.2)) (fun h5 => ?_)
      refine zreq1 ?_
      have h := h.1 ⟨Int32.not_le.mp h4, h5⟩
      rw [decide_eq_true h3] at h
      obtain ⟨kk, hk, h6, h⟩ := h
      refine ⟨kk, hk, h6, ?_⟩
      refine zjeq1 ?_
      exact h
  · exact h.elim

end ZL2
