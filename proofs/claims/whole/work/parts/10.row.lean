/-! LockMaster.Row: a row of numbers that no index can make throw -/
section ZR
def kX7_at : List zI := [
  (0, 1, .iload_n 1, [], 0),
  (1, 3, .ifCond .lt 12, [13], 0),
  (4, 1, .iload_n 1, [], 0),
  (5, 1, .aload_n 0, [], 0),
  (6, 3, .getfield 7, [], 0),
  (9, 1, .arraylength, [], 0),
  (10, 3, .if_icmp .lt 7, [17], 0),
  (13, 1, .iconst 0, [], 0),
  (14, 3, .goto 9, [23], 0),
  (17, 1, .aload_n 0, [], 0),
  (18, 3, .getfield 7, [], 0),
  (21, 1, .iload_n 1, [], 0),
  (22, 1, .iaload, [], 0),
  (23, 1, .ireturn, [], 0)]
theorem kX7_at_ok : kX7_at.all (zck cX7_at) = true := by decide +kernel

def kX7_put : List zI := [
  (0, 1, .iload_n 1, [], 0),
  (1, 3, .ifCond .lt 19, [20], 0),
  (4, 1, .iload_n 1, [], 0),
  (5, 1, .aload_n 0, [], 0),
  (6, 3, .getfield 7, [], 0),
  (9, 1, .arraylength, [], 0),
  (10, 3, .if_icmp .ge 10, [20], 0),
  (13, 1, .aload_n 0, [], 0),
  (14, 3, .getfield 7, [], 0),
  (17, 1, .iload_n 1, [], 0),
  (18, 1, .iload_n 2, [], 0),
  (19, 1, .iastore, [], 0),
  (20, 1, .return_, [], 0)]
theorem kX7_put_ok : kX7_put.all (zck cX7_put) = true := by decide +kernel

def kX7_add : List zI := [
  (0, 1, .aload_n 0, [], 0),
  (1, 1, .iload_n 1, [], 0),
  (2, 1, .aload_n 0, [], 0),
  (3, 1, .iload_n 1, [], 0),
  (4, 3, .invokevirtual 13, [], 0),
  (7, 1, .iload_n 2, [], 0),
  (8, 1, .iadd, [], 0),
  (9, 3, .invokevirtual 17, [], 0),
  (12, 1, .return_, [], 0)]
theorem kX7_add_ok : kX7_add.all (zck cX7_add) = true := by decide +kernel

def kX7_sum : List zI := [
  (0, 1, .iconst 0, [], 0),
  (1, 1, .istore_n 1, [], 0),
  (2, 1, .iconst 0, [], 0),
  (3, 1, .istore_n 2, [], 0),
  (4, 1, .iload_n 2, [], 0),
  (5, 1, .aload_n 0, [], 0),
  (6, 3, .getfield 7, [], 0),
  (9, 1, .arraylength, [], 0),
  (10, 3, .if_icmp .ge 18, [28], 0),
  (13, 1, .iload_n 1, [], 0),
  (14, 1, .aload_n 0, [], 0),
  (15, 3, .getfield 7, [], 0),
  (18, 1, .iload_n 2, [], 0),
  (19, 1, .iaload, [], 0),
  (20, 1, .iadd, [], 0),
  (21, 1, .istore_n 1, [], 0),
  (22, 3, .iinc 2 1, [], 1),
  (25, 3, .goto (-21), [4], 0),
  (28, 1, .iload_n 1, [], 0),
  (29, 1, .ireturn, [], 0)]
theorem kX7_sum_ok : kX7_sum.all (zck cX7_sum) = true := by decide +kernel

def kX7_copyFrom : List zI := [
  (0, 1, .iconst 0, [], 0),
  (1, 1, .istore_n 2, [], 0),
  (2, 1, .iload_n 2, [], 0),
  (3, 1, .aload_n 0, [], 0),
  (4, 3, .getfield 7, [], 0),
  (7, 1, .arraylength, [], 0),
  (8, 3, .if_icmp .ge 20, [28], 0),
  (11, 1, .aload_n 0, [], 0),
  (12, 3, .getfield 7, [], 0),
  (15, 1, .iload_n 2, [], 0),
  (16, 1, .aload_n 1, [], 0),
  (17, 1, .iload_n 2, [], 0),
  (18, 3, .invokevirtual 13, [], 0),
  (21, 1, .iastore, [], 0),
  (22, 3, .iinc 2 1, [], 1),
  (25, 3, .goto (-23), [2], 0),
  (28, 1, .return_, [], 0)]
theorem kX7_copyFrom_ok : kX7_copyFrom.all (zck cX7_copyFrom) = true := by decide +kernel

def uR (n : Nat) : zU := (2, fun k => match k with
  | 0 => (0, 7, [some 1])
  | _ => (1, n, []))
def rr0 : Room := { frames := 0, cells := 0, slots := 0, locals := 0 }
def zrd (n : Nat) (f : Nat → Int32) (i : Int32) : Int32 := if i < 0 then 0 else if i < Int32.ofNat n then f i.toNatClampNeg else 0
def zwr (n : Nat) (F : zF) (j : Nat) (i v : Int32) : zF := if i < 0 then F else if i < Int32.ofNat n then zup F j i.toNatClampNeg v else F
theorem vp_in_lt {i : Int32} {n : Nat} (hn : n < 2 ^ 31) (h1 : ¬ i < 0) (h2 : i < Int32.ofNat n) : vp_in i n := by
  obtain ⟨j, hj, rfl⟩ := nI_of h1
  exact vp_in_nI ((nI_ltI hj hn).mp h2) hn
def sR_at (n : Nat) : zSp := fun as F ok _ => match as with
  | [.ref 0, .int i] => ok (some (.int (zrd n (F 1) i))) F
  | _ => False
abbrev YX7_at (n : Nat) : zM := (RX7, cX7_at, 2, some .int, rr0, uR n, zlk fX7, zcs [] [])
theorem YX7_at_ok (n : Nat) : zYok (YX7_at n) := zYok_of fX7_ok znil znil
theorem mX7_at (n : Nat) (hn : n < 2 ^ 31) : zMet (uR n) yX7_at cX7_at 2 (some .int) rr0 (sR_at n) := by
  refine zmet (Y := YX7_at n) rfl (by decide +kernel) ?_
  intro av F ok ex h
  unfold sR_at at h
  split at h
  · rename_i i
    refine zgo_ok (YX7_at_ok n) zno kX7_at (List.all_eq_true.mp kX7_at_ok) 0 _ _ _ _ _ ?_
    repeat' (first
      | refine And.intro (fun h0 => absurd h0 (by decide)) (fun _ => ?_)
      | refine And.intro (fun _ => ?_) (fun h0 => absurd (by decide) h0)
      | refine And.intro (fun _ => ?_) (fun _ => ?_)
      | refine And.intro (fun _ => ?_) ?_
      | refine Exists.intro ?_ ?_)
    · rename_i h1
      exact zleaf ok h (by simp [zrd, h1]) rfl
    · rename_i h1 h2
      exact vp_in_lt hn h1 h2
    · rename_i h1 h2
      have h2 : i < Int32.ofNat n := h2
      exact zleaf ok h (by simp [zrd, h1, h2]) rfl
    · rename_i h1 h2
      have h2 : ¬ i < Int32.ofNat n := h2
      exact zleaf ok h (by simp [zrd, h1, h2]) rfl
  · exact h.elim
end ZR
