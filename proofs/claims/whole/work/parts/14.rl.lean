/-! LockMaster.Reaches, LockMaster.Locks, in the world of a canal -/
section ZRL
abbrev qA (F : zF) (i : Int32) : Int32 := zrd 5 (F 3) i
abbrev qN (F : zF) (i : Int32) : Int32 := zrd 5 (F 5) i
abbrev qW (F : zF) (i : Int32) : Int32 := zrd 5 (F 7) i
def qLev (F : zF) (i : Int32) : Int32 := if qA F i < 1 then 0 else qW F i / qA F i
def qLack (F : zF) (i : Int32) : Int32 := qA F i * qN F i - qW F i
def qDry (F : zF) (i : Int32) : Int32 := if qLack F i ≤ 2 * qA F i then 0 else if qLack F i ≤ 6 * qA F i then 1 else 2
def sX6_make : zSp := fun as F ok _ => match as with
  | [.ref 1, .int a, .int l] => ok (some (.int (F 1 3))) (zup (zwr 5 (zwr 5 (zwr 5 F 3 (F 1 3) a) 5 (F 1 3) l) 7 (F 1 3) (a * l)) 1 3 (F 1 3 + 1))
  | _ => False
def sX6_levelOf : zSp := fun as F ok _ => match as with
  | [.ref 1, .int i] => ok (some (.int (qLev F i))) F
  | _ => False
def sX6_drynessOf : zSp := fun as F ok _ => match as with
  | [.ref 1, .int i] => ok (some (.int (qDry F i))) F
  | _ => False
/-- one reach spills: what comes in, the reach -/
def qSp1 (F : zF) (c i : Int32) : zF × Int32 := if qN (zwr 5 F 7 i (qW F i + c)) i < qLev (zwr 5 F 7 i (qW F i + c)) i then
  (zwr 5 (zwr 5 F 7 i (qW F i + c)) 7 i (qW (zwr 5 F 7 i (qW F i + c)) i + -(qW (zwr 5 F 7 i (qW F i + c)) i - qA (zwr 5 F 7 i (qW F i + c)) i * qN (zwr 5 F 7 i (qW F i + c)) i)), qW (zwr 5 F 7 i (qW F i + c)) i - qA (zwr 5 F 7 i (qW F i + c)) i * qN (zwr 5 F 7 i (qW F i + c)) i)
  else (zwr 5 F 7 i (qW F i + c), 0)
def qSp (F : zF) : Nat → zF × Int32
  | 0 => (F, 0)
  | k + 1 => qSp1 (qSp F k).1 (qSp F k).2 (nI k)
theorem qSp1_3 (F : zF) (c i : Int32) (k : Nat) (h : k ≠ 7) : (qSp1 F c i).1 k = F k := by
  unfold qSp1
  split
  · show zwr 5 (zwr 5 F 7 i _) 7 i _ k = F k
    rw [zwr_ne _ _ _ _ h, zwr_ne _ _ _ _ h]
  · exact zwr_ne _ _ _ _ h
theorem qSp_3 (F : zF) (n k : Nat) (h : k ≠ 7) : (qSp F n).1 k = F k := by
  induction n with
  | zero => rfl
  | succ n ih => exact (qSp1_3 _ _ _ _ h).trans ih
def sX6_spill : zSp := fun as F ok _ => match as with
  | [.ref 1] => ok (some (.int (qSp F (F 1 3).toNatClampNeg).2)) (qSp F (F 1 3).toNatClampNeg).1
  | _ => False

def kX6_make : List zI := [
  (0, 1, .aload_n 0, [], 0),
  (1, 3, .getfield 14, [], 0),
  (4, 1, .aload_n 0, [], 0),
  (5, 3, .getfield 26, [], 0),
  (8, 1, .iload_n 1, [], 0),
  (9, 3, .invokevirtual 30, [], 0),
  (12, 1, .aload_n 0, [], 0),
  (13, 3, .getfield 20, [], 0),
  (16, 1, .aload_n 0, [], 0),
  (17, 3, .getfield 26, [], 0),
  (20, 1, .iload_n 2, [], 0),
  (21, 3, .invokevirtual 30, [], 0),
  (24, 1, .aload_n 0, [], 0),
  (25, 3, .getfield 23, [], 0),
  (28, 1, .aload_n 0, [], 0),
  (29, 3, .getfield 26, [], 0),
  (32, 1, .iload_n 1, [], 0),
  (33, 1, .iload_n 2, [], 0),
  (34, 1, .imul, [], 0),
  (35, 3, .invokevirtual 30, [], 0),
  (38, 1, .aload_n 0, [], 0),
  (39, 1, .dup, [], 0),
  (40, 3, .getfield 26, [], 0),
  (43, 1, .iconst 1, [], 1),
  (44, 1, .iadd, [], 0),
  (45, 3, .putfield 26, [], 0),
  (48, 1, .aload_n 0, [], 0),
  (49, 3, .getfield 26, [], 0),
  (52, 1, .iconst 1, [], 1),
  (53, 1, .isub, [], 0),
  (54, 1, .ireturn, [], 0)]
theorem kX6_make_ok : kX6_make.all (zck cX6_make) = true := by decide +kernel

def rX6_make : Room := { frames := 1, cells := 0, slots := 0, locals := 22 }
abbrev YX6_make : zM := (RX6, cX6_make, 3, some .int, rX6_make, UC, zlk fX6, zcs [(30, 3, 0, 0, zvs (UC) 7 (sU_put UC))] [])
theorem YX6_make_ok : zYok (YX6_make) := zYok_of fX6_ok (zall (zcal_mono (zcalV (Y := YX6_make) (y := yX7_put) (cc := cX7_put) (nL := 3) (ret := none) (rm := rX7_put) (mU_put UC UC_small) 30 2 7 (T := TX7) rfl wX6_30 ⟨by decide +kernel, by decide +kernel, by decide +kernel⟩ (by decide) ⟨Nat.le_of_ble_eq_true rfl, Nat.le_of_ble_eq_true rfl⟩) (fun _ _ _ _ h => zvs_P h)) znil) znil

theorem mX6_make : zMet (UC) yX6_make cX6_make 3 (some .int) rX6_make (sX6_make) := by
  refine zmet (Y := YX6_make) rfl (by decide +kernel) ?_
  intro av F ok ex h
  unfold sX6_make at h
  split at h
  · rename_i a l
    refine zgo_ok (YX6_make_ok) zno kX6_make (List.all_eq_true.mp kX6_make_ok) 0 _ _ _ _ _ ?_
    refine zleaf ok h ?_ ?_
    · congr 2
      show F 1 3 = zup _ 1 3 (zwr 5 (zwr 5 (zwr 5 F 3 (F 1 3) a) 5 _ l) 7 _ (a * l) 1 3 + 1) 1 3 - 1
      rw [zup_at, zwr_ne _ _ _ _ (by decide), zwr_ne _ _ _ _ (by decide), zwr_ne _ _ _ _ (by decide), Int32.add_sub_cancel]
    · show _ = zup (zwr 5 (zwr 5 (zwr 5 F 3 (F 1 3) a) 5 (zwr 5 F 3 (F 1 3) a 1 3) l) 7 (zwr 5 (zwr 5 F 3 (F 1 3) a) 5 (zwr 5 F 3 (F 1 3) a 1 3) l 1 3) (a * l)) 1 3 (zwr 5 (zwr 5 (zwr 5 F 3 (F 1 3) a) 5 (zwr 5 F 3 (F 1 3) a 1 3) l) 7 (zwr 5 (zwr 5 F 3 (F 1 3) a) 5 (zwr 5 F 3 (F 1 3) a 1 3) l 1 3) (a * l) 1 3 + 1)
      simp only [zwr_ne _ _ _ _ (show 1 ≠ 3 by decide), zwr_ne _ _ _ _ (show 1 ≠ 5 by decide), zwr_ne _ _ _ _ (show 1 ≠ 7 by decide)]
  · exact h.elim

def kX6_levelOf : List zI := [
  (0, 1, .aload_n 0, [], 0),
  (1, 3, .getfield 14, [], 0),
  (4, 1, .iload_n 1, [], 0),
  (5, 3, .invokevirtual 34, [], 0),
  (8, 1, .istore_n 2, [], 0),
  (9, 1, .iload_n 2, [], 0),
  (10, 1, .iconst 1, [], 1),
  (11, 3, .if_icmp .ge 7, [18], 0),
  (14, 1, .iconst 0, [], 0),
  (15, 3, .goto 13, [28], 0),
  (18, 1, .aload_n 0, [], 0),
  (19, 3, .getfield 23, [], 0),
  (22, 1, .iload_n 1, [], 0),
  (23, 3, .invokevirtual 34, [], 0),
  (26, 1, .iload_n 2, [], 0),
  (27, 1, .idiv, [], 0),
  (28, 1, .ireturn, [], 0)]
theorem kX6_levelOf_ok : kX6_levelOf.all (zck cX6_levelOf) = true := by decide +kernel

def rX6_levelOf : Room := { frames := 1, cells := 0, slots := 0, locals := 21 }
abbrev YX6_levelOf : zM := (RX6, cX6_levelOf, 3, some .int, rX6_levelOf, UC, zlk fX6, zcs [(34, 2, 0, 0, zvs (UC) 7 (sU_at UC))] [])
theorem YX6_levelOf_ok : zYok (YX6_levelOf) := zYok_of fX6_ok (zall (zcal_mono (zcalV (Y := YX6_levelOf) (y := yX7_at) (cc := cX7_at) (nL := 2) (ret := some .int) (rm := rX7_at) (mU_at UC UC_small) 34 1 7 (T := TX7) rfl wX6_34 ⟨by decide +kernel, by decide +kernel, by decide +kernel⟩ (by decide) ⟨Nat.le_of_ble_eq_true rfl, Nat.le_of_ble_eq_true rfl⟩) (fun _ _ _ _ h => zvs_P h)) znil) znil

theorem mX6_levelOf : zMet (UC) yX6_levelOf cX6_levelOf 3 (some .int) rX6_levelOf (sX6_levelOf) := by
  refine zmet (Y := YX6_levelOf) rfl (by decide +kernel) ?_
  intro av F ok ex h
  unfold sX6_levelOf at h
  split at h
  · rename_i i
    refine zgo_ok (YX6_levelOf_ok) zno kX6_levelOf (List.all_eq_true.mp kX6_levelOf_ok) 0 _ _ _ _ _ ?_
    repeat' (first
      | refine And.intro (fun h0 => absurd h0 (by decide)) (fun _ => ?_)
      | refine And.intro (fun _ => ?_) (fun h0 => absurd (by decide) h0)
      | refine And.intro (fun _ => ?_) (fun _ => ?_)
      | refine And.intro (fun _ => ?_) ?_
      | refine Exists.intro ?_ ?_)
    · rename_i h1
      have h1 : 1 ≤ qA F i := h1
      intro h2
      have h2 : qA F i = 0 := h2
      rw [h2] at h1
      exact absurd h1 (by decide)
    · rename_i h1
      have h1 : 1 ≤ qA F i := h1
      exact zleaf ok h (by simp only [qLev, if_neg (Int32.not_lt.mpr h1)]) rfl
    · rename_i h1
      have h1 : ¬ 1 ≤ qA F i := h1
      exact zleaf ok h (by simp only [qLev, if_pos (Int32.not_le.mp h1)]) rfl
  · exact h.elim

def kX6_drynessOf : List zI := [
  (0, 1, .aload_n 0, [], 0),
  (1, 3, .getfield 14, [], 0),
  (4, 1, .iload_n 1, [], 0),
  (5, 3, .invokevirtual 34, [], 0),
  (8, 1, .aload_n 0, [], 0),
  (9, 3, .getfield 20, [], 0),
  (12, 1, .iload_n 1, [], 0),
  (13, 3, .invokevirtual 34, [], 0),
  (16, 1, .imul, [], 0),
  (17, 1, .aload_n 0, [], 0),
  (18, 3, .getfield 23, [], 0),
  (21, 1, .iload_n 1, [], 0),
  (22, 3, .invokevirtual 34, [], 0),
  (25, 1, .isub, [], 0),
  (26, 1, .istore_n 2, [], 0),
  (27, 1, .iload_n 2, [], 0),
  (28, 1, .iconst 2, [], 2),
  (29, 1, .aload_n 0, [], 0),
  (30, 3, .getfield 14, [], 0),
  (33, 1, .iload_n 1, [], 0),
  (34, 3, .invokevirtual 34, [], 0),
  (37, 1, .imul, [], 0),
  (38, 3, .if_icmp .gt 7, [45], 0),
  (41, 1, .iconst 0, [], 0),
  (42, 3, .goto 23, [65], 0),
  (45, 1, .iload_n 2, [], 0),
  (46, 2, .bipush 6, [], 6),
  (48, 1, .aload_n 0, [], 0),
  (49, 3, .getfield 14, [], 0),
  (52, 1, .iload_n 1, [], 0),
  (53, 3, .invokevirtual 34, [], 0),
  (56, 1, .imul, [], 0),
  (57, 3, .if_icmp .gt 7, [64], 0),
  (60, 1, .iconst 1, [], 1),
  (61, 3, .goto 4, [65], 0),
  (64, 1, .iconst 2, [], 2),
  (65, 1, .ireturn, [], 0)]
theorem kX6_drynessOf_ok : kX6_drynessOf.all (zck cX6_drynessOf) = true := by decide +kernel

def rX6_drynessOf : Room := { frames := 1, cells := 0, slots := 0, locals := 21 }
abbrev YX6_drynessOf : zM := (RX6, cX6_drynessOf, 3, some .int, rX6_drynessOf, UC, zlk fX6, zcs [(34, 2, 0, 0, zvs (UC) 7 (sU_at UC))] [])
theorem YX6_drynessOf_ok : zYok (YX6_drynessOf) := zYok_of fX6_ok (zall (zcal_mono (zcalV (Y := YX6_drynessOf) (y := yX7_at) (cc := cX7_at) (nL := 2) (ret := some .int) (rm := rX7_at) (mU_at UC UC_small) 34 1 7 (T := TX7) rfl wX6_34 ⟨by decide +kernel, by decide +kernel, by decide +kernel⟩ (by decide) ⟨Nat.le_of_ble_eq_true rfl, Nat.le_of_ble_eq_true rfl⟩) (fun _ _ _ _ h => zvs_P h)) znil) znil

theorem mX6_drynessOf : zMet (UC) yX6_drynessOf cX6_drynessOf 3 (some .int) rX6_drynessOf (sX6_drynessOf) := by
  refine zmet (Y := YX6_drynessOf) rfl (by decide +kernel) ?_
  intro av F ok ex h
  unfold sX6_drynessOf at h
  split at h
  · rename_i i
    refine zgo_ok (YX6_drynessOf_ok) zno kX6_drynessOf (List.all_eq_true.mp kX6_drynessOf_ok) 0 _ _ _ _ _ ?_
    repeat' (first
      | refine And.intro (fun h0 => absurd h0 (by decide)) (fun _ => ?_)
      | refine And.intro (fun _ => ?_) (fun h0 => absurd (by decide) h0)
      | refine And.intro (fun _ => ?_) (fun _ => ?_)
      | refine And.intro (fun _ => ?_) ?_
      | refine Exists.intro ?_ ?_)
    · rename_i h1 h2
      have h1 : 2 * qA F i < qLack F i := h1
      have h2 : 6 * qA F i < qLack F i := h2
      exact zleaf ok h (by simp only [qDry, if_neg (Int32.not_le.mpr h1), if_neg (Int32.not_le.mpr h2)]) rfl
    · rename_i h1 h2
      have h1 : 2 * qA F i < qLack F i := h1
      have h2 : ¬ 6 * qA F i < qLack F i := h2
      exact zleaf ok h (by simp only [qDry, if_neg (Int32.not_le.mpr h1), if_pos (Int32.not_lt.mp h2)]) rfl
    · rename_i h1
      have h1 : ¬ 2 * qA F i < qLack F i := h1
      exact zleaf ok h (by simp only [qDry, if_pos (Int32.not_lt.mp h1)]) rfl
  · exact h.elim

def kX6_spill : List zI := [
  (0, 1, .iconst 0, [], 0),
  (1, 1, .istore_n 1, [], 0),
  (2, 1, .iconst 0, [], 0),
  (3, 1, .istore_n 2, [], 0),
  (4, 1, .iload_n 2, [], 0),
  (5, 1, .aload_n 0, [], 0),
  (6, 3, .getfield 26, [], 0),
  (9, 3, .if_icmp .ge 73, [82], 0),
  (12, 1, .aload_n 0, [], 0),
  (13, 3, .getfield 23, [], 0),
  (16, 1, .iload_n 2, [], 0),
  (17, 1, .iload_n 1, [], 0),
  (18, 3, .invokevirtual 38, [], 0),
  (21, 1, .iconst 0, [], 0),
  (22, 1, .istore_n 1, [], 0),
  (23, 1, .aload_n 0, [], 0),
  (24, 1, .iload_n 2, [], 0),
  (25, 3, .invokevirtual 41, [], 0),
  (28, 1, .aload_n 0, [], 0),
  (29, 3, .getfield 20, [], 0),
  (32, 1, .iload_n 2, [], 0),
  (33, 3, .invokevirtual 34, [], 0),
  (36, 3, .if_icmp .le 40, [76], 0),
  (39, 1, .aload_n 0, [], 0),
  (40, 3, .getfield 23, [], 0),
  (43, 1, .iload_n 2, [], 0),
  (44, 3, .invokevirtual 34, [], 0),
  (47, 1, .aload_n 0, [], 0),
  (48, 3, .getfield 14, [], 0),
  (51, 1, .iload_n 2, [], 0),
  (52, 3, .invokevirtual 34, [], 0),
  (55, 1, .aload_n 0, [], 0),
  (56, 3, .getfield 20, [], 0),
  (59, 1, .iload_n 2, [], 0),
  (60, 3, .invokevirtual 34, [], 0),
  (63, 1, .imul, [], 0),
  (64, 1, .isub, [], 0),
  (65, 1, .istore_n 1, [], 0),
  (66, 1, .aload_n 0, [], 0),
  (67, 3, .getfield 23, [], 0),
  (70, 1, .iload_n 2, [], 0),
  (71, 1, .iload_n 1, [], 0),
  (72, 1, .ineg, [], 0),
  (73, 3, .invokevirtual 38, [], 0),
  (76, 3, .iinc 2 1, [], 1),
  (79, 3, .goto (-75), [4], 0),
  (82, 1, .iload_n 1, [], 0),
  (83, 1, .ireturn, [], 0)]
theorem kX6_spill_ok : kX6_spill.all (zck cX6_spill) = true := by decide +kernel

def rX6_spill : Room := { frames := 2, cells := 0, slots := 0, locals := 44 }
abbrev YX6_spill : zM := (RX6, cX6_spill, 3, some .int, rX6_spill, UC, zlk fX6, zcs [(38, 3, 0, 0, zvs (UC) 7 (sU_add UC)), (41, 2, 0, 0, zvs (UC) 6 (sX6_levelOf)), (34, 2, 0, 0, zvs (UC) 7 (sU_at UC))] [])
theorem YX6_spill_ok : zYok (YX6_spill) := zYok_of fX6_ok (zall (zcal_mono (zcalV (Y := YX6_spill) (y := yX7_add) (cc := cX7_add) (nL := 3) (ret := none) (rm := rX7_add) (mU_add UC UC_small) 38 2 7 (T := TX7) rfl wX6_38 ⟨by decide +kernel, by decide +kernel, by decide +kernel⟩ (by decide) ⟨Nat.le_of_ble_eq_true rfl, Nat.le_of_ble_eq_true rfl⟩) (fun _ _ _ _ h => zvs_P h)) (zall (zcal_mono (zcalV (Y := YX6_spill) (y := yX6_levelOf) (cc := cX6_levelOf) (nL := 3) (ret := some .int) (rm := rX6_levelOf) (mX6_levelOf) 41 1 6 (T := TX6) rfl wX6_41 ⟨by decide +kernel, by decide +kernel, by decide +kernel⟩ (by decide) ⟨Nat.le_of_ble_eq_true rfl, Nat.le_of_ble_eq_true rfl⟩) (fun _ _ _ _ h => zvs_P h)) (zall (zcal_mono (zcalV (Y := YX6_spill) (y := yX7_at) (cc := cX7_at) (nL := 2) (ret := some .int) (rm := rX7_at) (mU_at UC UC_small) 34 1 7 (T := TX7) rfl wX6_34 ⟨by decide +kernel, by decide +kernel, by decide +kernel⟩ (by decide) ⟨Nat.le_of_ble_eq_true rfl, Nat.le_of_ble_eq_true rfl⟩) (fun _ _ _ _ h => zvs_P h)) znil))) znil

theorem lX6_spill (ok : zO) (ex : zX) (F : zF) (h : ok (some (.int (qSp F (F 1 3).toNatClampNeg).2)) (qSp F (F 1 3).toNatClampNeg).1) : ∀ (d k : Nat), k + d = (F 1 3).toNatClampNeg → zWP YX6_spill ok ex 4 [some (.ref 1), some (.int (qSp F k).2), some (.int (nI k))] [] 0 0 (qSp F k).1 := by
  intro d
  induction d with
  | zero =>
    intro k hk
    have hk : k = (F 1 3).toNatClampNeg := hk
    refine zat_ok YX6_spill_ok zno kX6_spill (List.all_eq_true.mp kX6_spill_ok) 4 _ _ _ _ _ ?_
    refine And.intro (fun _ => by rw [hk]; exact h) (fun h1 => absurd ?_ h1)
    show (qSp F k).1 1 3 ≤ nI k
    rw [qSp_3 F k 1 (by decide), hk]
    exact zcnt_ge _
  | succ d ih =>
    intro k hk
    refine zat_ok YX6_spill_ok (inv := zi1 4 (fun ls st kc ks G => zWP YX6_spill ok ex 4 ls st kc ks G)) (zone fun _ _ _ _ _ h => h) kX6_spill (List.all_eq_true.mp kX6_spill_ok) 4 _ _ _ _ _ ?_
    refine And.intro (fun h1 => absurd ?_ (zcnt_lt (c := F 1 3) (k := k) (by omega))) (fun h1 => ?_)
    · have h1 : (qSp F k).1 1 3 ≤ nI k := h1
      rw [qSp_3 F k 1 (by decide)] at h1
      exact h1
    have ih := ih (k + 1) (by omega)
    have e : qSp F (k + 1) = qSp1 (qSp F k).1 (qSp F k).2 (nI k) := rfl
    rw [e, ← nI_1] at ih
    generalize (qSp F k).1 = G at ih ⊢
    generalize (qSp F k).2 = c at ih ⊢
    refine And.intro (fun h2 => ?_) (fun h2 => ?_)
    · have h2 : qLev (zwr 5 G 7 (nI k) (qW G (nI k) + c)) (nI k) ≤ qN (zwr 5 G 7 (nI k) (qW G (nI k) + c)) (nI k) := h2
      unfold qSp1 at ih
      rw [if_neg (Int32.not_lt.mpr h2)] at ih
      exact ih
    · have h2 : ¬ qLev (zwr 5 G 7 (nI k) (qW G (nI k) + c)) (nI k) ≤ qN (zwr 5 G 7 (nI k) (qW G (nI k) + c)) (nI k) := h2
      unfold qSp1 at ih
      rw [if_pos (Int32.not_le.mp h2)] at ih
      exact ih

theorem mX6_spill : zMet (UC) yX6_spill cX6_spill 3 (some .int) rX6_spill (sX6_spill) := by
  refine zmet (Y := YX6_spill) rfl (by decide +kernel) ?_
  intro av F ok ex h
  unfold sX6_spill at h
  split at h
  · refine zgo_ok (YX6_spill_ok) (inv := zi1 4 (fun ls st kc ks G => zWP YX6_spill ok ex 4 ls st kc ks G)) (zone fun _ _ _ _ _ h => h) kX6_spill (List.all_eq_true.mp kX6_spill_ok) 0 _ _ _ _ _ ?_
    exact lX6_spill ok ex F h _ 0 (Nat.zero_add _)
  · exact h.elim

/-! the locks: length 10, chamber 12, quarter 14, basins 16, full 18, full basins 20, ships 22, lockings 24; 8: water of basins, count -/
abbrev qLen (F : zF) (i : Int32) : Int32 := zrd 4 (F 10) i
abbrev qCh (F : zF) (i : Int32) : Int32 := zrd 4 (F 12) i
abbrev qQu (F : zF) (i : Int32) : Int32 := zrd 4 (F 14) i
abbrev qBa (F : zF) (i : Int32) : Int32 := zrd 4 (F 16) i
abbrev qFu (F : zF) (i : Int32) : Int32 := zrd 4 (F 18) i
abbrev qFb (F : zF) (i : Int32) : Int32 := zrd 4 (F 20) i
abbrev qInB (F : zF) (i : Int32) : Int32 := qFb F i * qQu F i
abbrev qWin (F : zF) (i : Int32) : Int32 := qFu F i * qCh F i + qInB F i
abbrev qLk (F : zF) (i : Int32) : Int32 := qCh F i - qInB F i
def qMkL (F : zF) (a b c : Int32) : zF := zup (zwr 4 (zwr 4 (zwr 4 (zwr 4 F 10 (F 8 9) a) 12 (F 8 9) b) 14 (F 8 9) (b / 4)) 16 (F 8 9) c) 8 9 (F 8 9 + 1)
def qFill (F : zF) (i : Int32) : zF := zwr 4 (zwr 4 (zup F 8 8 (F 8 8 + qInB F i)) 20 i 0) 18 i 1
def qLeft (F : zF) (i : Int32) : Int32 := qCh F i - (qBa F i - qFb F i) * qQu F i
def qEmp (F : zF) (i : Int32) : zF := zwr 4 (zwr 4 F 20 i (qBa F i)) 18 i 0
def qAllW (F : zF) : Nat → Int32
  | 0 => 0
  | k + 1 => qAllW F k + qWin F (nI k)
def sX5_make : zSp := fun as F ok _ => match as with
  | [.ref 8, .int a, .int b, .int c] => ok none (qMkL F a b c)
  | _ => False
def sX5_isFull : zSp := fun as F ok _ => match as with
  | [.ref 8, .int i] => zbo (qFu F i = 1) F ok
  | _ => False
def sX5_inBasins : zSp := fun as F ok _ => match as with
  | [.ref 8, .int i] => ok (some (.int (qInB F i))) F
  | _ => False
def sX5_waterIn : zSp := fun as F ok _ => match as with
  | [.ref 8, .int i] => ok (some (.int (qWin F i))) F
  | _ => False
def sX5_allWater : zSp := fun as F ok _ => match as with
  | [.ref 8] => ok (some (.int (qAllW F (F 8 9).toNatClampNeg))) F
  | _ => False
def sX5_lackingToFill : zSp := fun as F ok _ => match as with
  | [.ref 8, .int i] => ok (some (.int (qLk F i))) F
  | _ => False
def sX5_fill : zSp := fun as F ok _ => match as with
  | [.ref 8, .int i] => ok none (qFill F i)
  | _ => False
def sX5_leftBeyondBasins : zSp := fun as F ok _ => match as with
  | [.ref 8, .int i] => ok (some (.int (qLeft F i))) F
  | _ => False
def sX5_empty : zSp := fun as F ok _ => match as with
  | [.ref 8, .int i] => ok none (qEmp F i)
  | _ => False

def kX5_make : List zI := [
  (0, 1, .aload_n 0, [], 0),
  (1, 3, .getfield 14, [], 0),
  (4, 1, .aload_n 0, [], 0),
  (5, 3, .getfield 45, [], 0),
  (8, 1, .iload_n 1, [], 0),
  (9, 3, .invokevirtual 48, [], 0),
  (12, 1, .aload_n 0, [], 0),
  (13, 3, .getfield 20, [], 0),
  (16, 1, .aload_n 0, [], 0),
  (17, 3, .getfield 45, [], 0),
  (20, 1, .iload_n 2, [], 0),
  (21, 3, .invokevirtual 48, [], 0),
  (24, 1, .aload_n 0, [], 0),
  (25, 3, .getfield 23, [], 0),
  (28, 1, .aload_n 0, [], 0),
  (29, 3, .getfield 45, [], 0),
  (32, 1, .iload_n 2, [], 0),
  (33, 1, .iconst 4, [], 4),
  (34, 1, .idiv, [], 0),
  (35, 3, .invokevirtual 48, [], 0),
  (38, 1, .aload_n 0, [], 0),
  (39, 3, .getfield 26, [], 0),
  (42, 1, .aload_n 0, [], 0),
  (43, 3, .getfield 45, [], 0),
  (46, 1, .iload_n 3, [], 0),
  (47, 3, .invokevirtual 48, [], 0),
  (50, 1, .aload_n 0, [], 0),
  (51, 1, .dup, [], 0),
  (52, 3, .getfield 45, [], 0),
  (55, 1, .iconst 1, [], 1),
  (56, 1, .iadd, [], 0),
  (57, 3, .putfield 45, [], 0),
  (60, 1, .return_, [], 0)]
theorem kX5_make_ok : kX5_make.all (zck cX5_make) = true := by decide +kernel

def rX5_make : Room := { frames := 1, cells := 0, slots := 0, locals := 22 }
abbrev YX5_make : zM := (RX5, cX5_make, 4, none, rX5_make, UC, zlk fX5, zcs [(48, 3, 0, 0, zvs (UC) 7 (sU_put UC))] [])
theorem YX5_make_ok : zYok (YX5_make) := zYok_of fX5_ok (zall (zcal_mono (zcalV (Y := YX5_make) (y := yX7_put) (cc := cX7_put) (nL := 3) (ret := none) (rm := rX7_put) (mU_put UC UC_small) 48 2 7 (T := TX7) rfl wX5_48 ⟨by decide +kernel, by decide +kernel, by decide +kernel⟩ (by decide) ⟨Nat.le_of_ble_eq_true rfl, Nat.le_of_ble_eq_true rfl⟩) (fun _ _ _ _ h => zvs_P h)) znil) znil

theorem mX5_make : zMet (UC) yX5_make cX5_make 4 (none) rX5_make (sX5_make) := by
  refine zmet (Y := YX5_make) rfl (by decide +kernel) ?_
  intro av F ok ex h
  unfold sX5_make at h
  split at h
  · rename_i a b c
    refine zgo_ok (YX5_make_ok) zno kX5_make (List.all_eq_true.mp kX5_make_ok) 0 _ _ _ _ _ ?_
    refine Exists.intro (by decide) ?_
    refine zleaf ok h rfl ?_
    unfold qMkL
    show _ = zup (zwr 4 (zwr 4 (zwr 4 (zwr 4 F 10 (F 8 9) a) 12 (zwr 4 F 10 (F 8 9) a 8 9) b) 14 (zwr 4 (zwr 4 F 10 (F 8 9) a) 12 (zwr 4 F 10 (F 8 9) a 8 9) b 8 9) (b / 4)) 16 (zwr 4 (zwr 4 (zwr 4 F 10 (F 8 9) a) 12 (zwr 4 F 10 (F 8 9) a 8 9) b) 14 (zwr 4 (zwr 4 F 10 (F 8 9) a) 12 (zwr 4 F 10 (F 8 9) a 8 9) b 8 9) (b / 4) 8 9) c) 8 9 (zwr 4 (zwr 4 (zwr 4 (zwr 4 F 10 (F 8 9) a) 12 (zwr 4 F 10 (F 8 9) a 8 9) b) 14 (zwr 4 (zwr 4 F 10 (F 8 9) a) 12 (zwr 4 F 10 (F 8 9) a 8 9) b 8 9) (b / 4)) 16 (zwr 4 (zwr 4 (zwr 4 F 10 (F 8 9) a) 12 (zwr 4 F 10 (F 8 9) a 8 9) b) 14 (zwr 4 (zwr 4 F 10 (F 8 9) a) 12 (zwr 4 F 10 (F 8 9) a 8 9) b 8 9) (b / 4) 8 9) c 8 9 + 1)
    simp only [zwr_ne _ _ _ _ (show 8 ≠ 10 by decide), zwr_ne _ _ _ _ (show 8 ≠ 12 by decide), zwr_ne _ _ _ _ (show 8 ≠ 14 by decide), zwr_ne _ _ _ _ (show 8 ≠ 16 by decide)]
  · exact h.elim

def kX5_isFull : List zI := [
  (0, 1, .aload_n 0, [], 0),
  (1, 3, .getfield 29, [], 0),
  (4, 1, .iload_n 1, [], 0),
  (5, 3, .invokevirtual 52, [], 0),
  (8, 1, .iconst 1, [], 1),
  (9, 3, .if_icmp .ne 7, [16], 0),
  (12, 1, .iconst 1, [], 1),
  (13, 3, .goto 4, [17], 0),
  (16, 1, .iconst 0, [], 0),
  (17, 1, .ireturn, [], 0)]
theorem kX5_isFull_ok : kX5_isFull.all (zck cX5_isFull) = true := by decide +kernel

def rX5_isFull : Room := { frames := 1, cells := 0, slots := 0, locals := 21 }
abbrev YX5_isFull : zM := (RX5, cX5_isFull, 2, some .boolean, rX5_isFull, UC, zlk fX5, zcs [(52, 2, 0, 0, zvs (UC) 7 (sU_at UC))] [])
theorem YX5_isFull_ok : zYok (YX5_isFull) := zYok_of fX5_ok (zall (zcal_mono (zcalV (Y := YX5_isFull) (y := yX7_at) (cc := cX7_at) (nL := 2) (ret := some .int) (rm := rX7_at) (mU_at UC UC_small) 52 1 7 (T := TX7) rfl wX5_52 ⟨by decide +kernel, by decide +kernel, by decide +kernel⟩ (by decide) ⟨Nat.le_of_ble_eq_true rfl, Nat.le_of_ble_eq_true rfl⟩) (fun _ _ _ _ h => zvs_P h)) znil) znil

theorem mX5_isFull : zMet (UC) yX5_isFull cX5_isFull 2 (some .boolean) rX5_isFull (sX5_isFull) := by
  refine zmet (Y := YX5_isFull) rfl (by decide +kernel) ?_
  intro av F ok ex h
  unfold sX5_isFull at h
  split at h
  · rename_i i
    refine zgo_ok (YX5_isFull_ok) zno kX5_isFull (List.all_eq_true.mp kX5_isFull_ok) 0 _ _ _ _ _ ?_
    refine And.intro (fun h1 => ?_) (fun h1 => ?_)
    · refine Exists.intro (Or.inl rfl) ?_
      exact h.2 h1
    · refine Exists.intro (Or.inr rfl) ?_
      exact h.1 h1
  · exact h.elim

def kX5_inBasins : List zI := [
  (0, 1, .aload_n 0, [], 0),
  (1, 3, .getfield 32, [], 0),
  (4, 1, .iload_n 1, [], 0),
  (5, 3, .invokevirtual 52, [], 0),
  (8, 1, .aload_n 0, [], 0),
  (9, 3, .getfield 23, [], 0),
  (12, 1, .iload_n 1, [], 0),
  (13, 3, .invokevirtual 52, [], 0),
  (16, 1, .imul, [], 0),
  (17, 1, .ireturn, [], 0)]
theorem kX5_inBasins_ok : kX5_inBasins.all (zck cX5_inBasins) = true := by decide +kernel

def rX5_inBasins : Room := { frames := 1, cells := 0, slots := 0, locals := 21 }
abbrev YX5_inBasins : zM := (RX5, cX5_inBasins, 2, some .int, rX5_inBasins, UC, zlk fX5, zcs [(52, 2, 0, 0, zvs (UC) 7 (sU_at UC))] [])
theorem YX5_inBasins_ok : zYok (YX5_inBasins) := zYok_of fX5_ok (zall (zcal_mono (zcalV (Y := YX5_inBasins) (y := yX7_at) (cc := cX7_at) (nL := 2) (ret := some .int) (rm := rX7_at) (mU_at UC UC_small) 52 1 7 (T := TX7) rfl wX5_52 ⟨by decide +kernel, by decide +kernel, by decide +kernel⟩ (by decide) ⟨Nat.le_of_ble_eq_true rfl, Nat.le_of_ble_eq_true rfl⟩) (fun _ _ _ _ h => zvs_P h)) znil) znil

theorem mX5_inBasins : zMet (UC) yX5_inBasins cX5_inBasins 2 (some .int) rX5_inBasins (sX5_inBasins) := by
  refine zmet (Y := YX5_inBasins) rfl (by decide +kernel) ?_
  intro av F ok ex h
  unfold sX5_inBasins at h
  split at h
  · rename_i i
    refine zgo_ok (YX5_inBasins_ok) zno kX5_inBasins (List.all_eq_true.mp kX5_inBasins_ok) 0 _ _ _ _ _ ?_
    exact h
  · exact h.elim

def kX5_waterIn : List zI := [
  (0, 1, .aload_n 0, [], 0),
  (1, 3, .getfield 29, [], 0),
  (4, 1, .iload_n 1, [], 0),
  (5, 3, .invokevirtual 52, [], 0),
  (8, 1, .aload_n 0, [], 0),
  (9, 3, .getfield 20, [], 0),
  (12, 1, .iload_n 1, [], 0),
  (13, 3, .invokevirtual 52, [], 0),
  (16, 1, .imul, [], 0),
  (17, 1, .aload_n 0, [], 0),
  (18, 1, .iload_n 1, [], 0),
  (19, 3, .invokevirtual 56, [], 0),
  (22, 1, .iadd, [], 0),
  (23, 1, .ireturn, [], 0)]
theorem kX5_waterIn_ok : kX5_waterIn.all (zck cX5_waterIn) = true := by decide +kernel

def rX5_waterIn : Room := { frames := 2, cells := 0, slots := 0, locals := 42 }
abbrev YX5_waterIn : zM := (RX5, cX5_waterIn, 2, some .int, rX5_waterIn, UC, zlk fX5, zcs [(52, 2, 0, 0, zvs (UC) 7 (sU_at UC)), (56, 2, 0, 0, zvs (UC) 5 (sX5_inBasins))] [])
theorem YX5_waterIn_ok : zYok (YX5_waterIn) := zYok_of fX5_ok (zall (zcal_mono (zcalV (Y := YX5_waterIn) (y := yX7_at) (cc := cX7_at) (nL := 2) (ret := some .int) (rm := rX7_at) (mU_at UC UC_small) 52 1 7 (T := TX7) rfl wX5_52 ⟨by decide +kernel, by decide +kernel, by decide +kernel⟩ (by decide) ⟨Nat.le_of_ble_eq_true rfl, Nat.le_of_ble_eq_true rfl⟩) (fun _ _ _ _ h => zvs_P h)) (zall (zcal_mono (zcalV (Y := YX5_waterIn) (y := yX5_inBasins) (cc := cX5_inBasins) (nL := 2) (ret := some .int) (rm := rX5_inBasins) (mX5_inBasins) 56 1 5 (T := TX5) rfl wX5_56 ⟨by decide +kernel, by decide +kernel, by decide +kernel⟩ (by decide) ⟨Nat.le_of_ble_eq_true rfl, Nat.le_of_ble_eq_true rfl⟩) (fun _ _ _ _ h => zvs_P h)) znil)) znil

theorem mX5_waterIn : zMet (UC) yX5_waterIn cX5_waterIn 2 (some .int) rX5_waterIn (sX5_waterIn) := by
  refine zmet (Y := YX5_waterIn) rfl (by decide +kernel) ?_
  intro av F ok ex h
  unfold sX5_waterIn at h
  split at h
  · rename_i i
    refine zgo_ok (YX5_waterIn_ok) zno kX5_waterIn (List.all_eq_true.mp kX5_waterIn_ok) 0 _ _ _ _ _ ?_
    exact h
  · exact h.elim

def kX5_allWater : List zI := [
  (0, 1, .iconst 0, [], 0),
  (1, 1, .istore_n 1, [], 0),
  (2, 1, .iconst 0, [], 0),
  (3, 1, .istore_n 2, [], 0),
  (4, 1, .iload_n 2, [], 0),
  (5, 1, .aload_n 0, [], 0),
  (6, 3, .getfield 45, [], 0),
  (9, 3, .if_icmp .ge 17, [26], 0),
  (12, 1, .iload_n 1, [], 0),
  (13, 1, .aload_n 0, [], 0),
  (14, 1, .iload_n 2, [], 0),
  (15, 3, .invokevirtual 59, [], 0),
  (18, 1, .iadd, [], 0),
  (19, 1, .istore_n 1, [], 0),
  (20, 3, .iinc 2 1, [], 1),
  (23, 3, .goto (-19), [4], 0),
  (26, 1, .iload_n 1, [], 0),
  (27, 1, .ireturn, [], 0)]
theorem kX5_allWater_ok : kX5_allWater.all (zck cX5_allWater) = true := by decide +kernel

def rX5_allWater : Room := { frames := 3, cells := 0, slots := 0, locals := 63 }
abbrev YX5_allWater : zM := (RX5, cX5_allWater, 3, some .int, rX5_allWater, UC, zlk fX5, zcs [(59, 2, 0, 0, zvs (UC) 5 (sX5_waterIn))] [])
theorem YX5_allWater_ok : zYok (YX5_allWater) := zYok_of fX5_ok (zall (zcal_mono (zcalV (Y := YX5_allWater) (y := yX5_waterIn) (cc := cX5_waterIn) (nL := 2) (ret := some .int) (rm := rX5_waterIn) (mX5_waterIn) 59 1 5 (T := TX5) rfl wX5_59 ⟨by decide +kernel, by decide +kernel, by decide +kernel⟩ (by decide) ⟨Nat.le_of_ble_eq_true rfl, Nat.le_of_ble_eq_true rfl⟩) (fun _ _ _ _ h => zvs_P h)) znil) znil

theorem lX5_allWater (ok : zO) (ex : zX) (F : zF) (h : ok (some (.int (qAllW F (F 8 9).toNatClampNeg))) F) : ∀ (d k : Nat), k + d = (F 8 9).toNatClampNeg → zWP YX5_allWater ok ex 4 [some (.ref 8), some (.int (qAllW F k)), some (.int (nI k))] [] 0 0 F := by
  intro d
  induction d with
  | zero =>
    intro k hk
    have hk : k = (F 8 9).toNatClampNeg := hk
    subst hk
    refine zat_ok YX5_allWater_ok zno kX5_allWater (List.all_eq_true.mp kX5_allWater_ok) 4 _ _ _ _ _ ?_
    exact And.intro (fun _ => h) (fun h1 => absurd (zcnt_ge _) h1)
  | succ d ih =>
    intro k hk
    refine zat_ok YX5_allWater_ok (inv := zi1 4 (fun ls st kc ks G => zWP YX5_allWater ok ex 4 ls st kc ks G)) (zone fun _ _ _ _ _ h => h) kX5_allWater (List.all_eq_true.mp kX5_allWater_ok) 4 _ _ _ _ _ ?_
    refine And.intro (fun h1 => absurd h1 (zcnt_lt (c := F 8 9) (k := k) (by omega))) (fun h1 => ?_)
    have ih := ih (k + 1) (by omega)
    rw [← nI_1] at ih
    exact ih

theorem mX5_allWater : zMet (UC) yX5_allWater cX5_allWater 3 (some .int) rX5_allWater (sX5_allWater) := by
  refine zmet (Y := YX5_allWater) rfl (by decide +kernel) ?_
  intro av F ok ex h
  unfold sX5_allWater at h
  split at h
  · refine zgo_ok (YX5_allWater_ok) (inv := zi1 4 (fun ls st kc ks G => zWP YX5_allWater ok ex 4 ls st kc ks G)) (zone fun _ _ _ _ _ h => h) kX5_allWater (List.all_eq_true.mp kX5_allWater_ok) 0 _ _ _ _ _ ?_
    exact lX5_allWater ok ex F h _ 0 (Nat.zero_add _)
  · exact h.elim

def kX5_lackingToFill : List zI := [
  (0, 1, .aload_n 0, [], 0),
  (1, 3, .getfield 20, [], 0),
  (4, 1, .iload_n 1, [], 0),
  (5, 3, .invokevirtual 52, [], 0),
  (8, 1, .aload_n 0, [], 0),
  (9, 1, .iload_n 1, [], 0),
  (10, 3, .invokevirtual 56, [], 0),
  (13, 1, .isub, [], 0),
  (14, 1, .ireturn, [], 0)]
theorem kX5_lackingToFill_ok : kX5_lackingToFill.all (zck cX5_lackingToFill) = true := by decide +kernel

def rX5_lackingToFill : Room := { frames := 2, cells := 0, slots := 0, locals := 42 }
abbrev YX5_lackingToFill : zM := (RX5, cX5_lackingToFill, 2, some .int, rX5_lackingToFill, UC, zlk fX5, zcs [(52, 2, 0, 0, zvs (UC) 7 (sU_at UC)), (56, 2, 0, 0, zvs (UC) 5 (sX5_inBasins))] [])
theorem YX5_lackingToFill_ok : zYok (YX5_lackingToFill) := zYok_of fX5_ok (zall (zcal_mono (zcalV (Y := YX5_lackingToFill) (y := yX7_at) (cc := cX7_at) (nL := 2) (ret := some .int) (rm := rX7_at) (mU_at UC UC_small) 52 1 7 (T := TX7) rfl wX5_52 ⟨by decide +kernel, by decide +kernel, by decide +kernel⟩ (by decide) ⟨Nat.le_of_ble_eq_true rfl, Nat.le_of_ble_eq_true rfl⟩) (fun _ _ _ _ h => zvs_P h)) (zall (zcal_mono (zcalV (Y := YX5_lackingToFill) (y := yX5_inBasins) (cc := cX5_inBasins) (nL := 2) (ret := some .int) (rm := rX5_inBasins) (mX5_inBasins) 56 1 5 (T := TX5) rfl wX5_56 ⟨by decide +kernel, by decide +kernel, by decide +kernel⟩ (by decide) ⟨Nat.le_of_ble_eq_true rfl, Nat.le_of_ble_eq_true rfl⟩) (fun _ _ _ _ h => zvs_P h)) znil)) znil

theorem mX5_lackingToFill : zMet (UC) yX5_lackingToFill cX5_lackingToFill 2 (some .int) rX5_lackingToFill (sX5_lackingToFill) := by
  refine zmet (Y := YX5_lackingToFill) rfl (by decide +kernel) ?_
  intro av F ok ex h
  unfold sX5_lackingToFill at h
  split at h
  · rename_i i
    refine zgo_ok (YX5_lackingToFill_ok) zno kX5_lackingToFill (List.all_eq_true.mp kX5_lackingToFill_ok) 0 _ _ _ _ _ ?_
    exact h
  · exact h.elim

def kX5_leftBeyondBasins : List zI := [
  (0, 1, .aload_n 0, [], 0),
  (1, 3, .getfield 26, [], 0),
  (4, 1, .iload_n 1, [], 0),
  (5, 3, .invokevirtual 52, [], 0),
  (8, 1, .aload_n 0, [], 0),
  (9, 3, .getfield 32, [], 0),
  (12, 1, .iload_n 1, [], 0),
  (13, 3, .invokevirtual 52, [], 0),
  (16, 1, .isub, [], 0),
  (17, 1, .istore_n 2, [], 0),
  (18, 1, .aload_n 0, [], 0),
  (19, 3, .getfield 20, [], 0),
  (22, 1, .iload_n 1, [], 0),
  (23, 3, .invokevirtual 52, [], 0),
  (26, 1, .iload_n 2, [], 0),
  (27, 1, .aload_n 0, [], 0),
  (28, 3, .getfield 23, [], 0),
  (31, 1, .iload_n 1, [], 0),
  (32, 3, .invokevirtual 52, [], 0),
  (35, 1, .imul, [], 0),
  (36, 1, .isub, [], 0),
  (37, 1, .ireturn, [], 0)]
theorem kX5_leftBeyondBasins_ok : kX5_leftBeyondBasins.all (zck cX5_leftBeyondBasins) = true := by decide +kernel

def rX5_leftBeyondBasins : Room := { frames := 1, cells := 0, slots := 0, locals := 21 }
abbrev YX5_leftBeyondBasins : zM := (RX5, cX5_leftBeyondBasins, 3, some .int, rX5_leftBeyondBasins, UC, zlk fX5, zcs [(52, 2, 0, 0, zvs (UC) 7 (sU_at UC))] [])
theorem YX5_leftBeyondBasins_ok : zYok (YX5_leftBeyondBasins) := zYok_of fX5_ok (zall (zcal_mono (zcalV (Y := YX5_leftBeyondBasins) (y := yX7_at) (cc := cX7_at) (nL := 2) (ret := some .int) (rm := rX7_at) (mU_at UC UC_small) 52 1 7 (T := TX7) rfl wX5_52 ⟨by decide +kernel, by decide +kernel, by decide +kernel⟩ (by decide) ⟨Nat.le_of_ble_eq_true rfl, Nat.le_of_ble_eq_true rfl⟩) (fun _ _ _ _ h => zvs_P h)) znil) znil

theorem mX5_leftBeyondBasins : zMet (UC) yX5_leftBeyondBasins cX5_leftBeyondBasins 3 (some .int) rX5_leftBeyondBasins (sX5_leftBeyondBasins) := by
  refine zmet (Y := YX5_leftBeyondBasins) rfl (by decide +kernel) ?_
  intro av F ok ex h
  unfold sX5_leftBeyondBasins at h
  split at h
  · rename_i i
    refine zgo_ok (YX5_leftBeyondBasins_ok) zno kX5_leftBeyondBasins (List.all_eq_true.mp kX5_leftBeyondBasins_ok) 0 _ _ _ _ _ ?_
    exact h
  · exact h.elim

def kX5_empty : List zI := [
  (0, 1, .aload_n 0, [], 0),
  (1, 3, .getfield 32, [], 0),
  (4, 1, .iload_n 1, [], 0),
  (5, 1, .aload_n 0, [], 0),
  (6, 3, .getfield 26, [], 0),
  (9, 1, .iload_n 1, [], 0),
  (10, 3, .invokevirtual 52, [], 0),
  (13, 3, .invokevirtual 48, [], 0),
  (16, 1, .aload_n 0, [], 0),
  (17, 3, .getfield 29, [], 0),
  (20, 1, .iload_n 1, [], 0),
  (21, 1, .iconst 0, [], 0),
  (22, 3, .invokevirtual 48, [], 0),
  (25, 1, .return_, [], 0)]
theorem kX5_empty_ok : kX5_empty.all (zck cX5_empty) = true := by decide +kernel

def rX5_empty : Room := { frames := 1, cells := 0, slots := 0, locals := 22 }
abbrev YX5_empty : zM := (RX5, cX5_empty, 2, none, rX5_empty, UC, zlk fX5, zcs [(52, 2, 0, 0, zvs (UC) 7 (sU_at UC)), (48, 3, 0, 0, zvs (UC) 7 (sU_put UC))] [])
theorem YX5_empty_ok : zYok (YX5_empty) := zYok_of fX5_ok (zall (zcal_mono (zcalV (Y := YX5_empty) (y := yX7_at) (cc := cX7_at) (nL := 2) (ret := some .int) (rm := rX7_at) (mU_at UC UC_small) 52 1 7 (T := TX7) rfl wX5_52 ⟨by decide +kernel, by decide +kernel, by decide +kernel⟩ (by decide) ⟨Nat.le_of_ble_eq_true rfl, Nat.le_of_ble_eq_true rfl⟩) (fun _ _ _ _ h => zvs_P h)) (zall (zcal_mono (zcalV (Y := YX5_empty) (y := yX7_put) (cc := cX7_put) (nL := 3) (ret := none) (rm := rX7_put) (mU_put UC UC_small) 48 2 7 (T := TX7) rfl wX5_48 ⟨by decide +kernel, by decide +kernel, by decide +kernel⟩ (by decide) ⟨Nat.le_of_ble_eq_true rfl, Nat.le_of_ble_eq_true rfl⟩) (fun _ _ _ _ h => zvs_P h)) znil)) znil

theorem mX5_empty : zMet (UC) yX5_empty cX5_empty 2 (none) rX5_empty (sX5_empty) := by
  refine zmet (Y := YX5_empty) rfl (by decide +kernel) ?_
  intro av F ok ex h
  unfold sX5_empty at h
  split at h
  · rename_i i
    refine zgo_ok (YX5_empty_ok) zno kX5_empty (List.all_eq_true.mp kX5_empty_ok) 0 _ _ _ _ _ ?_
    exact h
  · exact h.elim

def kX5_fill : List zI := [
  (0, 1, .aload_n 0, [], 0),
  (1, 1, .dup, [], 0),
  (2, 3, .getfield 41, [], 0),
  (5, 1, .aload_n 0, [], 0),
  (6, 1, .iload_n 1, [], 0),
  (7, 3, .invokevirtual 56, [], 0),
  (10, 1, .iadd, [], 0),
  (11, 3, .putfield 41, [], 0),
  (14, 1, .aload_n 0, [], 0),
  (15, 3, .getfield 32, [], 0),
  (18, 1, .iload_n 1, [], 0),
  (19, 1, .iconst 0, [], 0),
  (20, 3, .invokevirtual 48, [], 0),
  (23, 1, .aload_n 0, [], 0),
  (24, 3, .getfield 29, [], 0),
  (27, 1, .iload_n 1, [], 0),
  (28, 1, .iconst 1, [], 1),
  (29, 3, .invokevirtual 48, [], 0),
  (32, 1, .return_, [], 0)]
theorem kX5_fill_ok : kX5_fill.all (zck cX5_fill) = true := by decide +kernel

def rX5_fill : Room := { frames := 2, cells := 0, slots := 0, locals := 42 }
abbrev YX5_fill : zM := (RX5, cX5_fill, 2, none, rX5_fill, UC, zlk fX5, zcs [(56, 2, 0, 0, zvs (UC) 5 (sX5_inBasins)), (48, 3, 0, 0, zvs (UC) 7 (sU_put UC))] [])
theorem YX5_fill_ok : zYok (YX5_fill) := zYok_of fX5_ok (zall (zcal_mono (zcalV (Y := YX5_fill) (y := yX5_inBasins) (cc := cX5_inBasins) (nL := 2) (ret := some .int) (rm := rX5_inBasins) (mX5_inBasins) 56 1 5 (T := TX5) rfl wX5_56 ⟨by decide +kernel, by decide +kernel, by decide +kernel⟩ (by decide) ⟨Nat.le_of_ble_eq_true rfl, Nat.le_of_ble_eq_true rfl⟩) (fun _ _ _ _ h => zvs_P h)) (zall (zcal_mono (zcalV (Y := YX5_fill) (y := yX7_put) (cc := cX7_put) (nL := 3) (ret := none) (rm := rX7_put) (mU_put UC UC_small) 48 2 7 (T := TX7) rfl wX5_48 ⟨by decide +kernel, by decide +kernel, by decide +kernel⟩ (by decide) ⟨Nat.le_of_ble_eq_true rfl, Nat.le_of_ble_eq_true rfl⟩) (fun _ _ _ _ h => zvs_P h)) znil)) znil

theorem mX5_fill : zMet (UC) yX5_fill cX5_fill 2 (none) rX5_fill (sX5_fill) := by
  refine zmet (Y := YX5_fill) rfl (by decide +kernel) ?_
  intro av F ok ex h
  unfold sX5_fill at h
  split at h
  · rename_i i
    refine zgo_ok (YX5_fill_ok) zno kX5_fill (List.all_eq_true.mp kX5_fill_ok) 0 _ _ _ _ _ ?_
    exact h
  · exact h.elim

end ZRL
