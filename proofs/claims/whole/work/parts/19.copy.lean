/-! two canals, the second at 45: copyFrom -/
section ZCp
def UC2 : zU := (90, fun k => match Nat.blt k 45 with
  | true => (znth lC k).getD (1, 0, [])
  | false => zren (fun j => 45 + j) ((znth lC (k - 45)).getD (1, 0, [])))
theorem UC2_small : zsmall UC2 := by
  have h : ∀ k, k < 90 → (UC2.2 k).2.1 < 2 ^ 31 := by decide +kernel
  exact h
def qCpR (F : zF) : zF := zup (zcpr (zcpr (zcpr F 3 48 5) 5 50 5) 7 52 5) 1 3 (F 46 3)
def qCpL (F : zF) : zF := zup (zup (zcpr (zcpr (zcpr (zcpr (zcpr (zcpr (zcpr (zcpr F 10 55 4) 12 57 4) 14 59 4) 16 61 4) 18 63 4) 20 65 4) 22 67 4) 24 69 4) 8 8 (F 53 8)) 8 9 (F 53 9)
def qCpF (F : zF) : zF := zup (zcpr (zcpr (zcpr (zcpr (zcpr (zcpr (zcpr (zcpr (zcpr F 27 72 16) 29 74 16) 31 76 16) 33 78 16) 35 80 16) 37 82 16) 39 84 16) 41 86 16) 43 88 16) 25 9 (F 70 9)
def qCpC (F : zF) : zF := zup (zup (zup (zup (zup (zup (zup (qCpF (qCpL (qCpR F))) 0 4 (F 45 4)) 0 5 (F 45 5)) 0 6 (F 45 6)) 0 7 (F 45 7)) 0 8 (F 45 8)) 0 9 (F 45 9)) 0 10 (F 45 10)
theorem zcpr_ne (F : zF) {j k : Nat} (i n : Nat) (h : k ≠ j) : zcpr F j i n k = F k := by
  funext b
  simp [zcpr, h]
def sX6_copyFrom : zSp := fun as F ok _ => match as with
  | [.ref 1, .ref 46] => ok none (qCpR F)
  | _ => False
def sX5_copyFrom : zSp := fun as F ok _ => match as with
  | [.ref 8, .ref 53] => ok none (qCpL F)
  | _ => False
def sX3_copyFrom : zSp := fun as F ok _ => match as with
  | [.ref 25, .ref 70] => ok none (qCpF F)
  | _ => False
def sX1_copyFrom : zSp := fun as F ok _ => match as with
  | [.ref 0, .ref 45] => ok none (qCpC F)
  | _ => False
theorem qCpR_o (F : zF) {k : Nat} (h : 45 ≤ k) : qCpR F k = F k := by
  unfold qCpR
  simp only [zup_ne _ _ _ (show k ≠ 1 by omega), zcpr_ne _ _ _ (show k ≠ 3 by omega), zcpr_ne _ _ _ (show k ≠ 5 by omega), zcpr_ne _ _ _ (show k ≠ 7 by omega)]
theorem qCpL_o (F : zF) {k : Nat} (h : 45 ≤ k) : qCpL F k = F k := by
  unfold qCpL
  simp only [zup_ne _ _ _ (show k ≠ 8 by omega), zcpr_ne _ _ _ (show k ≠ 10 by omega), zcpr_ne _ _ _ (show k ≠ 12 by omega), zcpr_ne _ _ _ (show k ≠ 14 by omega), zcpr_ne _ _ _ (show k ≠ 16 by omega), zcpr_ne _ _ _ (show k ≠ 18 by omega), zcpr_ne _ _ _ (show k ≠ 20 by omega), zcpr_ne _ _ _ (show k ≠ 22 by omega), zcpr_ne _ _ _ (show k ≠ 24 by omega)]
theorem qCpF_o (F : zF) {k : Nat} (h : 45 ≤ k) : qCpF F k = F k := by
  unfold qCpF
  simp only [zup_ne _ _ _ (show k ≠ 25 by omega), zcpr_ne _ _ _ (show k ≠ 27 by omega), zcpr_ne _ _ _ (show k ≠ 29 by omega), zcpr_ne _ _ _ (show k ≠ 31 by omega), zcpr_ne _ _ _ (show k ≠ 33 by omega), zcpr_ne _ _ _ (show k ≠ 35 by omega), zcpr_ne _ _ _ (show k ≠ 37 by omega), zcpr_ne _ _ _ (show k ≠ 39 by omega), zcpr_ne _ _ _ (show k ≠ 41 by omega), zcpr_ne _ _ _ (show k ≠ 43 by omega)]

def kX6_copyFrom : List zI := [
  (0, 1, .aload_n 0, [], 0),
  (1, 3, .getfield 14, [], 0),
  (4, 1, .aload_n 1, [], 0),
  (5, 3, .getfield 14, [], 0),
  (8, 3, .invokevirtual 44, [], 0),
  (11, 1, .aload_n 0, [], 0),
  (12, 3, .getfield 20, [], 0),
  (15, 1, .aload_n 1, [], 0),
  (16, 3, .getfield 20, [], 0),
  (19, 3, .invokevirtual 44, [], 0),
  (22, 1, .aload_n 0, [], 0),
  (23, 3, .getfield 23, [], 0),
  (26, 1, .aload_n 1, [], 0),
  (27, 3, .getfield 23, [], 0),
  (30, 3, .invokevirtual 44, [], 0),
  (33, 1, .aload_n 0, [], 0),
  (34, 1, .aload_n 1, [], 0),
  (35, 3, .getfield 26, [], 0),
  (38, 3, .putfield 26, [], 0),
  (41, 1, .return_, [], 0)]
theorem kX6_copyFrom_ok : kX6_copyFrom.all (zck cX6_copyFrom) = true := by decide +kernel

def rX6_copyFrom : Room := { frames := 2, cells := 0, slots := 0, locals := 43 }
abbrev YX6_copyFrom : zM := (RX6, cX6_copyFrom, 2, none, rX6_copyFrom, UC2, zlk fX6, zcs [(44, 2, 0, 0, zvs (UC2) 7 (sU_copy UC2))] [])
theorem YX6_copyFrom_ok : zYok (YX6_copyFrom) := zYok_of fX6_ok (zall (zcal_mono (zcalV (Y := YX6_copyFrom) (y := yX7_copyFrom) (cc := cX7_copyFrom) (nL := 3) (ret := none) (rm := rX7_copyFrom) (mU_copy UC2 UC2_small) 44 1 7 (T := TX7) rfl wX6_44 ⟨by decide +kernel, by decide +kernel, by decide +kernel⟩ (by decide) ⟨Nat.le_of_ble_eq_true rfl, Nat.le_of_ble_eq_true rfl⟩) (fun _ _ _ _ h => zvs_P h)) znil) znil

theorem mX6_copyFrom : zMet (UC2) yX6_copyFrom cX6_copyFrom 2 (none) rX6_copyFrom (sX6_copyFrom) := by
  refine zmet (Y := YX6_copyFrom) rfl (by decide +kernel) ?_
  intro av F ok ex h
  unfold sX6_copyFrom at h
  split at h
  · refine zgo_ok (YX6_copyFrom_ok) zno kX6_copyFrom (List.all_eq_true.mp kX6_copyFrom_ok) 0 _ _ _ _ _ ?_
    refine zleaf ok h rfl ?_
    unfold qCpR
    have e : F 46 3 = zcpr (zcpr (zcpr F 3 48 5) 5 50 5) 7 52 5 46 3 := by rw [zcpr_ne _ _ _ (by decide), zcpr_ne _ _ _ (by decide), zcpr_ne _ _ _ (by decide)]
    rw [e]
  · exact h.elim

def kX5_copyFrom : List zI := [
  (0, 1, .aload_n 0, [], 0),
  (1, 3, .getfield 14, [], 0),
  (4, 1, .aload_n 1, [], 0),
  (5, 3, .getfield 14, [], 0),
  (8, 3, .invokevirtual 62, [], 0),
  (11, 1, .aload_n 0, [], 0),
  (12, 3, .getfield 20, [], 0),
  (15, 1, .aload_n 1, [], 0),
  (16, 3, .getfield 20, [], 0),
  (19, 3, .invokevirtual 62, [], 0),
  (22, 1, .aload_n 0, [], 0),
  (23, 3, .getfield 23, [], 0),
  (26, 1, .aload_n 1, [], 0),
  (27, 3, .getfield 23, [], 0),
  (30, 3, .invokevirtual 62, [], 0),
  (33, 1, .aload_n 0, [], 0),
  (34, 3, .getfield 26, [], 0),
  (37, 1, .aload_n 1, [], 0),
  (38, 3, .getfield 26, [], 0),
  (41, 3, .invokevirtual 62, [], 0),
  (44, 1, .aload_n 0, [], 0),
  (45, 3, .getfield 29, [], 0),
  (48, 1, .aload_n 1, [], 0),
  (49, 3, .getfield 29, [], 0),
  (52, 3, .invokevirtual 62, [], 0),
  (55, 1, .aload_n 0, [], 0),
  (56, 3, .getfield 32, [], 0),
  (59, 1, .aload_n 1, [], 0),
  (60, 3, .getfield 32, [], 0),
  (63, 3, .invokevirtual 62, [], 0),
  (66, 1, .aload_n 0, [], 0),
  (67, 3, .getfield 35, [], 0),
  (70, 1, .aload_n 1, [], 0),
  (71, 3, .getfield 35, [], 0),
  (74, 3, .invokevirtual 62, [], 0),
  (77, 1, .aload_n 0, [], 0),
  (78, 3, .getfield 38, [], 0),
  (81, 1, .aload_n 1, [], 0),
  (82, 3, .getfield 38, [], 0),
  (85, 3, .invokevirtual 62, [], 0),
  (88, 1, .aload_n 0, [], 0),
  (89, 1, .aload_n 1, [], 0),
  (90, 3, .getfield 41, [], 0),
  (93, 3, .putfield 41, [], 0),
  (96, 1, .aload_n 0, [], 0),
  (97, 1, .aload_n 1, [], 0),
  (98, 3, .getfield 45, [], 0),
  (101, 3, .putfield 45, [], 0),
  (104, 1, .return_, [], 0)]
theorem kX5_copyFrom_ok : kX5_copyFrom.all (zck cX5_copyFrom) = true := by decide +kernel

def rX5_copyFrom : Room := { frames := 2, cells := 0, slots := 0, locals := 43 }
abbrev YX5_copyFrom : zM := (RX5, cX5_copyFrom, 2, none, rX5_copyFrom, UC2, zlk fX5, zcs [(62, 2, 0, 0, zvs (UC2) 7 (sU_copy UC2))] [])
theorem YX5_copyFrom_ok : zYok (YX5_copyFrom) := zYok_of fX5_ok (zall (zcal_mono (zcalV (Y := YX5_copyFrom) (y := yX7_copyFrom) (cc := cX7_copyFrom) (nL := 3) (ret := none) (rm := rX7_copyFrom) (mU_copy UC2 UC2_small) 62 1 7 (T := TX7) rfl wX5_62 ⟨by decide +kernel, by decide +kernel, by decide +kernel⟩ (by decide) ⟨Nat.le_of_ble_eq_true rfl, Nat.le_of_ble_eq_true rfl⟩) (fun _ _ _ _ h => zvs_P h)) znil) znil

theorem mX5_copyFrom : zMet (UC2) yX5_copyFrom cX5_copyFrom 2 (none) rX5_copyFrom (sX5_copyFrom) := by
  refine zmet (Y := YX5_copyFrom) rfl (by decide +kernel) ?_
  intro av F ok ex h
  unfold sX5_copyFrom at h
  split at h
  · refine zgo_ok (YX5_copyFrom_ok) zno kX5_copyFrom (List.all_eq_true.mp kX5_copyFrom_ok) 0 _ _ _ _ _ ?_
    refine zleaf ok h rfl ?_
    unfold qCpL
    have e : ∀ b, F 53 b = (zcpr (zcpr (zcpr (zcpr (zcpr (zcpr (zcpr (zcpr F 10 55 4) 12 57 4) 14 59 4) 16 61 4) 18 63 4) 20 65 4) 22 67 4) 24 69 4) 53 b := fun b => by simp only [zcpr_ne _ _ _ (show 53 ≠ 10 by decide), zcpr_ne _ _ _ (show 53 ≠ 12 by decide), zcpr_ne _ _ _ (show 53 ≠ 14 by decide), zcpr_ne _ _ _ (show 53 ≠ 16 by decide), zcpr_ne _ _ _ (show 53 ≠ 18 by decide), zcpr_ne _ _ _ (show 53 ≠ 20 by decide), zcpr_ne _ _ _ (show 53 ≠ 22 by decide), zcpr_ne _ _ _ (show 53 ≠ 24 by decide)]
    rw [e 8, e 9]
    have e2 : ∀ G : zF, ∀ v, zup G 8 8 v 53 9 = G 53 9 := fun G v => by rw [zup_ne _ _ _ (by decide)]
    rw [← e2 (zcpr (zcpr (zcpr (zcpr (zcpr (zcpr (zcpr (zcpr F 10 55 4) 12 57 4) 14 59 4) 16 61 4) 18 63 4) 20 65 4) 22 67 4) 24 69 4) ((zcpr (zcpr (zcpr (zcpr (zcpr (zcpr (zcpr (zcpr F 10 55 4) 12 57 4) 14 59 4) 16 61 4) 18 63 4) 20 65 4) 22 67 4) 24 69 4) 53 8)]
  · exact h.elim

def kX3_copyFrom : List zI := [
  (0, 1, .aload_n 0, [], 0),
  (1, 3, .getfield 14, [], 0),
  (4, 1, .aload_n 1, [], 0),
  (5, 3, .getfield 14, [], 0),
  (8, 3, .invokevirtual 88, [], 0),
  (11, 1, .aload_n 0, [], 0),
  (12, 3, .getfield 20, [], 0),
  (15, 1, .aload_n 1, [], 0),
  (16, 3, .getfield 20, [], 0),
  (19, 3, .invokevirtual 88, [], 0),
  (22, 1, .aload_n 0, [], 0),
  (23, 3, .getfield 23, [], 0),
  (26, 1, .aload_n 1, [], 0),
  (27, 3, .getfield 23, [], 0),
  (30, 3, .invokevirtual 88, [], 0),
  (33, 1, .aload_n 0, [], 0),
  (34, 3, .getfield 26, [], 0),
  (37, 1, .aload_n 1, [], 0),
  (38, 3, .getfield 26, [], 0),
  (41, 3, .invokevirtual 88, [], 0),
  (44, 1, .aload_n 0, [], 0),
  (45, 3, .getfield 29, [], 0),
  (48, 1, .aload_n 1, [], 0),
  (49, 3, .getfield 29, [], 0),
  (52, 3, .invokevirtual 88, [], 0),
  (55, 1, .aload_n 0, [], 0),
  (56, 3, .getfield 32, [], 0),
  (59, 1, .aload_n 1, [], 0),
  (60, 3, .getfield 32, [], 0),
  (63, 3, .invokevirtual 88, [], 0),
  (66, 1, .aload_n 0, [], 0),
  (67, 3, .getfield 35, [], 0),
  (70, 1, .aload_n 1, [], 0),
  (71, 3, .getfield 35, [], 0),
  (74, 3, .invokevirtual 88, [], 0),
  (77, 1, .aload_n 0, [], 0),
  (78, 3, .getfield 38, [], 0),
  (81, 1, .aload_n 1, [], 0),
  (82, 3, .getfield 38, [], 0),
  (85, 3, .invokevirtual 88, [], 0),
  (88, 1, .aload_n 0, [], 0),
  (89, 3, .getfield 41, [], 0),
  (92, 1, .aload_n 1, [], 0),
  (93, 3, .getfield 41, [], 0),
  (96, 3, .invokevirtual 88, [], 0),
  (99, 1, .aload_n 0, [], 0),
  (100, 1, .aload_n 1, [], 0),
  (101, 3, .getfield 44, [], 0),
  (104, 3, .putfield 44, [], 0),
  (107, 1, .return_, [], 0)]
theorem kX3_copyFrom_ok : kX3_copyFrom.all (zck cX3_copyFrom) = true := by decide +kernel

def rX3_copyFrom : Room := { frames := 2, cells := 0, slots := 0, locals := 43 }
abbrev YX3_copyFrom : zM := (RX3, cX3_copyFrom, 2, none, rX3_copyFrom, UC2, zlk fX3, zcs [(88, 2, 0, 0, zvs (UC2) 7 (sU_copy UC2))] [])
theorem YX3_copyFrom_ok : zYok (YX3_copyFrom) := zYok_of fX3_ok (zall (zcal_mono (zcalV (Y := YX3_copyFrom) (y := yX7_copyFrom) (cc := cX7_copyFrom) (nL := 3) (ret := none) (rm := rX7_copyFrom) (mU_copy UC2 UC2_small) 88 1 7 (T := TX7) rfl wX3_88 ⟨by decide +kernel, by decide +kernel, by decide +kernel⟩ (by decide) ⟨Nat.le_of_ble_eq_true rfl, Nat.le_of_ble_eq_true rfl⟩) (fun _ _ _ _ h => zvs_P h)) znil) znil

theorem mX3_copyFrom : zMet (UC2) yX3_copyFrom cX3_copyFrom 2 (none) rX3_copyFrom (sX3_copyFrom) := by
  refine zmet (Y := YX3_copyFrom) rfl (by decide +kernel) ?_
  intro av F ok ex h
  unfold sX3_copyFrom at h
  split at h
  · refine zgo_ok (YX3_copyFrom_ok) zno kX3_copyFrom (List.all_eq_true.mp kX3_copyFrom_ok) 0 _ _ _ _ _ ?_
    refine zleaf ok h rfl ?_
    unfold qCpF
    have e : ∀ b, F 70 b = (zcpr (zcpr (zcpr (zcpr (zcpr (zcpr (zcpr (zcpr (zcpr F 27 72 16) 29 74 16) 31 76 16) 33 78 16) 35 80 16) 37 82 16) 39 84 16) 41 86 16) 43 88 16) 70 b := fun b => by simp only [zcpr_ne _ _ _ (show 70 ≠ 27 by decide), zcpr_ne _ _ _ (show 70 ≠ 29 by decide), zcpr_ne _ _ _ (show 70 ≠ 31 by decide), zcpr_ne _ _ _ (show 70 ≠ 33 by decide), zcpr_ne _ _ _ (show 70 ≠ 35 by decide), zcpr_ne _ _ _ (show 70 ≠ 37 by decide), zcpr_ne _ _ _ (show 70 ≠ 39 by decide), zcpr_ne _ _ _ (show 70 ≠ 41 by decide), zcpr_ne _ _ _ (show 70 ≠ 43 by decide)]
    rw [e 9]
  · exact h.elim

def kX1_copyFrom : List zI := [
  (0, 1, .aload_n 0, [], 0),
  (1, 3, .getfield 12, [], 0),
  (4, 1, .aload_n 1, [], 0),
  (5, 3, .getfield 12, [], 0),
  (8, 3, .invokevirtual 217, [], 0),
  (11, 1, .aload_n 0, [], 0),
  (12, 3, .getfield 21, [], 0),
  (15, 1, .aload_n 1, [], 0),
  (16, 3, .getfield 21, [], 0),
  (19, 3, .invokevirtual 221, [], 0),
  (22, 1, .aload_n 0, [], 0),
  (23, 3, .getfield 28, [], 0),
  (26, 1, .aload_n 1, [], 0),
  (27, 3, .getfield 28, [], 0),
  (30, 3, .invokevirtual 224, [], 0),
  (33, 1, .aload_n 0, [], 0),
  (34, 1, .aload_n 1, [], 0),
  (35, 3, .getfield 39, [], 0),
  (38, 3, .putfield 39, [], 0),
  (41, 1, .aload_n 0, [], 0),
  (42, 1, .aload_n 1, [], 0),
  (43, 3, .getfield 43, [], 0),
  (46, 3, .putfield 43, [], 0),
  (49, 1, .aload_n 0, [], 0),
  (50, 1, .aload_n 1, [], 0),
  (51, 3, .getfield 46, [], 0),
  (54, 3, .putfield 46, [], 0),
  (57, 1, .aload_n 0, [], 0),
  (58, 1, .aload_n 1, [], 0),
  (59, 3, .getfield 49, [], 0),
  (62, 3, .putfield 49, [], 0),
  (65, 1, .aload_n 0, [], 0),
  (66, 1, .aload_n 1, [], 0),
  (67, 3, .getfield 52, [], 0),
  (70, 3, .putfield 52, [], 0),
  (73, 1, .aload_n 0, [], 0),
  (74, 1, .aload_n 1, [], 0),
  (75, 3, .getfield 55, [], 0),
  (78, 3, .putfield 55, [], 0),
  (81, 1, .aload_n 0, [], 0),
  (82, 1, .aload_n 1, [], 0),
  (83, 3, .getfield 58, [], 0),
  (86, 3, .putfield 58, [], 0),
  (89, 1, .return_, [], 0)]
theorem kX1_copyFrom_ok : kX1_copyFrom.all (zck cX1_copyFrom) = true := by decide +kernel

def rX1_copyFrom : Room := { frames := 3, cells := 0, slots := 0, locals := 64 }
abbrev YX1_copyFrom : zM := (RX1, cX1_copyFrom, 2, none, rX1_copyFrom, UC2, zlk fX1, zcs [(217, 2, 0, 0, zvs (UC2) 6 (sX6_copyFrom)), (221, 2, 0, 0, zvs (UC2) 5 (sX5_copyFrom)), (224, 2, 0, 0, zvs (UC2) 3 (sX3_copyFrom))] [])
theorem YX1_copyFrom_ok : zYok (YX1_copyFrom) := zYok_of fX1_ok (zall (zcal_mono (zcalV (Y := YX1_copyFrom) (y := yX6_copyFrom) (cc := cX6_copyFrom) (nL := 2) (ret := none) (rm := rX6_copyFrom) (mX6_copyFrom) 217 1 6 (T := TX6) rfl wX1_217 ⟨by decide +kernel, by decide +kernel, by decide +kernel⟩ (by decide) ⟨Nat.le_of_ble_eq_true rfl, Nat.le_of_ble_eq_true rfl⟩) (fun _ _ _ _ h => zvs_P h)) (zall (zcal_mono (zcalV (Y := YX1_copyFrom) (y := yX5_copyFrom) (cc := cX5_copyFrom) (nL := 2) (ret := none) (rm := rX5_copyFrom) (mX5_copyFrom) 221 1 5 (T := TX5) rfl wX1_221 ⟨by decide +kernel, by decide +kernel, by decide +kernel⟩ (by decide) ⟨Nat.le_of_ble_eq_true rfl, Nat.le_of_ble_eq_true rfl⟩) (fun _ _ _ _ h => zvs_P h)) (zall (zcal_mono (zcalV (Y := YX1_copyFrom) (y := yX3_copyFrom) (cc := cX3_copyFrom) (nL := 2) (ret := none) (rm := rX3_copyFrom) (mX3_copyFrom) 224 1 3 (T := TX3) rfl wX1_224 ⟨by decide +kernel, by decide +kernel, by decide +kernel⟩ (by decide) ⟨Nat.le_of_ble_eq_true rfl, Nat.le_of_ble_eq_true rfl⟩) (fun _ _ _ _ h => zvs_P h)) znil))) znil

theorem mX1_copyFrom : zMet (UC2) yX1_copyFrom cX1_copyFrom 2 (none) rX1_copyFrom (sX1_copyFrom) := by
  refine zmet (Y := YX1_copyFrom) rfl (by decide +kernel) ?_
  intro av F ok ex h
  unfold sX1_copyFrom at h
  split at h
  · refine zgo_ok (YX1_copyFrom_ok) zno kX1_copyFrom (List.all_eq_true.mp kX1_copyFrom_ok) 0 _ _ _ _ _ ?_
    refine zleaf ok h rfl ?_
    unfold qCpC
    have e : ∀ b, F 45 b = (qCpF (qCpL (qCpR F))) 45 b := fun b => by rw [qCpF_o _ (by decide), qCpL_o _ (by decide), qCpR_o _ (by decide)]
    have e2 : ∀ (G : zF) (n b : Nat) (v : Int32), zup G 0 n v 45 b = G 45 b := fun G n b v => by rw [zup_ne _ _ _ (by decide)]
    rw [e 4, e 5, e 6, e 7, e 8, e 9, e 10]
    show _ = zup (zup (zup (zup (zup (zup (zup (qCpF (qCpL (qCpR F))) 0 4 _) 0 5 _) 0 6 _) 0 7 _) 0 8 _) 0 9 _) 0 10 _
    simp only [e2]
  · exact h.elim

end ZCp
