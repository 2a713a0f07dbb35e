/-! LockMaster.Row: a row of numbers that no index can make throw -/
section ZR
theorem zcal_mono {Y : zM} {b : Bool} {ix n mc ms : Nat} {sp sp2 : zSp} (h : zCal Y b ix n mc ms sp) (h2 : ∀ as F ok ex, sp2 as F ok ex → sp as F ok ex) : zCal Y b ix n mc ms sp2 :=
  fun pc hd ok ex ls as r kc ks F ok' h3 h4 h5 h6 h7 h8 h9 => h pc hd ok ex ls as r kc ks F ok' h3 h4 h5 h6 h7 (h2 _ _ _ _ h8) h9
def uR (n : Nat) : zU := (2, fun k => match k with
  | 0 => (0, 7, [some 1])
  | _ => (1, n, []))
def uR2 (n : Nat) : zU := (4, fun k => match k with
  | 0 => (0, 7, [some 1])
  | 1 => (1, n, [])
  | 2 => (0, 7, [some 3])
  | _ => (1, n, []))
def zrd (n : Nat) (f : Nat → Int32) (i : Int32) : Int32 := if i < 0 then 0 else if i < Int32.ofNat n then f i.toNatClampNeg else 0
def zwr (n : Nat) (F : zF) (j : Nat) (i v : Int32) : zF := if i < 0 then F else if i < Int32.ofNat n then zup F j i.toNatClampNeg v else F
def zsum (f : Nat → Int32) : Nat → Int32
  | 0 => 0
  | n + 1 => zsum f n + f n
def zcpr (F : zF) (j i n : Nat) : zF := fun a b => if a = j then (if b < n then F i b else F j b) else F a b
theorem vp_in_lt {i : Int32} {n : Nat} (hn : n < 2 ^ 31) (h1 : ¬ i < 0) (h2 : i < Int32.ofNat n) : vp_in i n := by
  obtain ⟨j, hj, rfl⟩ := nI_of h1
  exact vp_in_nI ((nI_ltI hj hn).mp h2) hn
def sR_at (n : Nat) : zSp := fun as F ok _ => match as with
  | [.ref 0, .int i] => ok (some (.int (zrd n (F 1) i))) F
  | _ => False
def sR_put (n : Nat) : zSp := fun as F ok _ => match as with
  | [.ref 0, .int i, .int v] => ok none (zwr n F 1 i v)
  | _ => False
def sR_add (n : Nat) : zSp := fun as F ok _ => match as with
  | [.ref 0, .int i, .int v] => ok none (zwr n F 1 i (zrd n (F 1) i + v))
  | _ => False
def sR_sum (n : Nat) : zSp := fun as F ok _ => match as with
  | [.ref 0] => ok (some (.int (zsum (F 1) n))) F
  | _ => False
def sR_copy (n : Nat) : zSp := fun as F ok _ => match as with
  | [.ref 0, .ref 2] => ok none (zcpr F 1 3 n)
  | _ => False

def kX7_at : List zI := [
  (0, 1, .iload_n 1, [], 0),
  (1, 3, .ifCond .lt 12, [13], 0),
  (4, 1, .iload_n 1, [], 0),
  (5, 1, .aload_n 0, [], 0),
  (6, 3, .getfield 7, [], 0),
  (9, 1, .arraylength, [], 0),
  (10, 3, .if_icmp .lt 7, [17], 0),
  (13, 1, .iconst 0, [], 0),
  (14, 3, .goto 9, [23], 0),
  (17, 1, .aload_n 0, [], 0),
  (18, 3, .getfield 7, [], 0),
  (21, 1, .iload_n 1, [], 0),
  (22, 1, .iaload, [], 0),
  (23, 1, .ireturn, [], 0)]
theorem kX7_at_ok : kX7_at.all (zck cX7_at) = true := by decide +kernel

def rX7_at : Room := { frames := 0, cells := 0, slots := 0, locals := 0 }
abbrev YX7_at (n : Nat) : zM := (RX7, cX7_at, 2, some .int, rX7_at, uR n, zlk fX7, zcs [] [])
theorem YX7_at_ok (n : Nat) : zYok (YX7_at n) := zYok_of fX7_ok znil znil

theorem mX7_at (n : Nat) (hn : n < 2 ^ 31) : zMet (uR n) yX7_at cX7_at 2 (some .int) rX7_at (sR_at n) := by
  refine zmet (Y := YX7_at n) rfl (by decide +kernel) ?_
  intro av F ok ex h
  unfold sR_at at h
  split at h
  · rename_i i
    refine zgo_ok (YX7_at_ok n) zno kX7_at (List.all_eq_true.mp kX7_at_ok) 0 _ _ _ _ _ ?_
    repeat' (first
      | refine And.intro (fun h0 => absurd h0 (by decide)) (fun _ => ?_)
      | refine And.intro (fun _ => ?_) (fun h0 => absurd (by decide) h0)
      | refine And.intro (fun _ => ?_) (fun _ => ?_)
      | refine And.intro (fun _ => ?_) ?_
      | refine Exists.intro ?_ ?_)
    · rename_i h1
      exact zleaf ok h (by simp [zrd, h1]) rfl
    · rename_i h1 h2
      exact vp_in_lt hn h1 h2
    · rename_i h1 h2
      have h2 : i < Int32.ofNat n := h2
      exact zleaf ok h (by simp [zrd, h1, h2]) rfl
    · rename_i h1 h2
      have h2 : ¬ i < Int32.ofNat n := h2
      exact zleaf ok h (by simp [zrd, h1, h2]) rfl
  · exact h.elim

def kX7_put : List zI := [
  (0, 1, .iload_n 1, [], 0),
  (1, 3, .ifCond .lt 19, [20], 0),
  (4, 1, .iload_n 1, [], 0),
  (5, 1, .aload_n 0, [], 0),
  (6, 3, .getfield 7, [], 0),
  (9, 1, .arraylength, [], 0),
  (10, 3, .if_icmp .ge 10, [20], 0),
  (13, 1, .aload_n 0, [], 0),
  (14, 3, .getfield 7, [], 0),
  (17, 1, .iload_n 1, [], 0),
  (18, 1, .iload_n 2, [], 0),
  (19, 1, .iastore, [], 0),
  (20, 1, .return_, [], 0)]
theorem kX7_put_ok : kX7_put.all (zck cX7_put) = true := by decide +kernel

def rX7_put : Room := { frames := 0, cells := 0, slots := 0, locals := 0 }
abbrev YX7_put (n : Nat) : zM := (RX7, cX7_put, 3, none, rX7_put, uR n, zlk fX7, zcs [] [])
theorem YX7_put_ok (n : Nat) : zYok (YX7_put n) := zYok_of fX7_ok znil znil

theorem mX7_put (n : Nat) (hn : n < 2 ^ 31) : zMet (uR n) yX7_put cX7_put 3 (none) rX7_put (sR_put n) := by
  refine zmet (Y := YX7_put n) rfl (by decide +kernel) ?_
  intro av F ok ex h
  unfold sR_put at h
  split at h
  · rename_i i v
    refine zgo_ok (YX7_put_ok n) zno kX7_put (List.all_eq_true.mp kX7_put_ok) 0 _ _ _ _ _ ?_
    repeat' (first
      | refine And.intro (fun h0 => absurd h0 (by decide)) (fun _ => ?_)
      | refine And.intro (fun _ => ?_) (fun h0 => absurd (by decide) h0)
      | refine And.intro (fun _ => ?_) (fun _ => ?_)
      | refine And.intro (fun _ => ?_) ?_
      | refine Exists.intro ?_ ?_)
    · rename_i h1
      exact zleaf ok h rfl (by simp [zwr, h1])
    · rename_i h1 h2
      have h2 : Int32.ofNat n ≤ i := h2
      exact zleaf ok h rfl (by simp [zwr, h1, Int32.not_lt.mpr h2])
    · rename_i h1 h2
      have h2 : ¬ Int32.ofNat n ≤ i := h2
      exact vp_in_lt hn h1 (Int32.not_le.mp h2)
    · rename_i h1 h2
      have h2 : ¬ Int32.ofNat n ≤ i := h2
      exact zleaf ok h rfl (by simp [zwr, h1, Int32.not_le.mp h2])
  · exact h.elim

def kX7_add : List zI := [
  (0, 1, .aload_n 0, [], 0),
  (1, 1, .iload_n 1, [], 0),
  (2, 1, .aload_n 0, [], 0),
  (3, 1, .iload_n 1, [], 0),
  (4, 3, .invokevirtual 13, [], 0),
  (7, 1, .iload_n 2, [], 0),
  (8, 1, .iadd, [], 0),
  (9, 3, .invokevirtual 17, [], 0),
  (12, 1, .return_, [], 0)]
theorem kX7_add_ok : kX7_add.all (zck cX7_add) = true := by decide +kernel

def rX7_add : Room := { frames := 1, cells := 0, slots := 0, locals := 22 }
abbrev YX7_add (n : Nat) : zM := (RX7, cX7_add, 3, none, rX7_add, uR n, zlk fX7, zcs [(13, 2, 0, 0, zvs (uR n) 7 (sR_at n)), (17, 3, 0, 0, zvs (uR n) 7 (sR_put n))] [])
theorem YX7_add_ok (n : Nat) (hn : n < 2 ^ 31) : zYok (YX7_add n) := zYok_of fX7_ok (zall (zcal_mono (zcalV (Y := YX7_add n) (y := yX7_at) (cc := cX7_at) (nL := 2) (ret := some .int) (rm := rX7_at) (mX7_at n hn) 13 1 7 (T := TX7) rfl wX7_13 ⟨by decide +kernel, by decide +kernel, by decide +kernel⟩ (by decide) ⟨Nat.le_of_ble_eq_true rfl, Nat.le_of_ble_eq_true rfl⟩) (fun _ _ _ _ h => zvs_P h)) (zall (zcal_mono (zcalV (Y := YX7_add n) (y := yX7_put) (cc := cX7_put) (nL := 3) (ret := none) (rm := rX7_put) (mX7_put n hn) 17 2 7 (T := TX7) rfl wX7_17 ⟨by decide +kernel, by decide +kernel, by decide +kernel⟩ (by decide) ⟨Nat.le_of_ble_eq_true rfl, Nat.le_of_ble_eq_true rfl⟩) (fun _ _ _ _ h => zvs_P h)) znil)) znil

theorem mX7_add (n : Nat) (hn : n < 2 ^ 31) : zMet (uR n) yX7_add cX7_add 3 (none) rX7_add (sR_add n) := by
  refine zmet (Y := YX7_add n) rfl (by decide +kernel) ?_
  intro av F ok ex h
  unfold sR_add at h
  split at h
  · rename_i i v
    refine zgo_ok (YX7_add_ok n hn) zno kX7_add (List.all_eq_true.mp kX7_add_ok) 0 _ _ _ _ _ ?_
    exact h
  · exact h.elim

def kX7_sum : List zI := [
  (0, 1, .iconst 0, [], 0),
  (1, 1, .istore_n 1, [], 0),
  (2, 1, .iconst 0, [], 0),
  (3, 1, .istore_n 2, [], 0),
  (4, 1, .iload_n 2, [], 0),
  (5, 1, .aload_n 0, [], 0),
  (6, 3, .getfield 7, [], 0),
  (9, 1, .arraylength, [], 0),
  (10, 3, .if_icmp .ge 18, [28], 0),
  (13, 1, .iload_n 1, [], 0),
  (14, 1, .aload_n 0, [], 0),
  (15, 3, .getfield 7, [], 0),
  (18, 1, .iload_n 2, [], 0),
  (19, 1, .iaload, [], 0),
  (20, 1, .iadd, [], 0),
  (21, 1, .istore_n 1, [], 0),
  (22, 3, .iinc 2 1, [], 1),
  (25, 3, .goto (-21), [4], 0),
  (28, 1, .iload_n 1, [], 0),
  (29, 1, .ireturn, [], 0)]
theorem kX7_sum_ok : kX7_sum.all (zck cX7_sum) = true := by decide +kernel

def rX7_sum : Room := { frames := 0, cells := 0, slots := 0, locals := 0 }
abbrev YX7_sum (n : Nat) : zM := (RX7, cX7_sum, 3, some .int, rX7_sum, uR n, zlk fX7, zcs [] [])
theorem YX7_sum_ok (n : Nat) : zYok (YX7_sum n) := zYok_of fX7_ok znil znil

theorem lX7_sum (n : Nat) (hn : n < 2 ^ 31) (ok : zO) (ex : zX) (F : zF) (h : ok (some (.int (zsum (F 1) n))) F) : ∀ (d k : Nat), k + d = n → zWP (YX7_sum n) ok ex 4 [some (.ref 0), some (.int (zsum (F 1) k)), some (.int (nI k))] [] 0 0 F := by
  intro d
  induction d with
  | zero =>
    intro k hk
    refine zat_ok (YX7_sum_ok n) zno kX7_sum (List.all_eq_true.mp kX7_sum_ok) 4 _ _ _ _ _ ?_
    have hk : k = n := hk
    subst hk
    refine And.intro (fun _ => h) (fun h1 => absurd ?_ h1)
    exact nI_le (Nat.le_refl k) hn
  | succ d ih =>
    intro k hk
    have hlt : k < n := by omega
    refine zat_ok (YX7_sum_ok n) (inv := zi1 4 (fun ls st kc ks G => zWP (YX7_sum n) ok ex 4 ls st kc ks G)) (zone fun _ _ _ _ _ h => h) kX7_sum (List.all_eq_true.mp kX7_sum_ok) 4 _ _ _ _ _ ?_
    refine And.intro (fun h1 => absurd (show nI n ≤ nI k from h1) (nI_ge hlt hn)) (fun h1 => ?_)
    refine Exists.intro (vp_in_nI hlt hn) ?_
    have := ih (k + 1) (by omega)
    rw [← nI_1, show zsum (F 1) (k + 1) = zsum (F 1) k + F 1 (nI k).toNatClampNeg by rw [nI_clamp (by omega)]; rfl] at this
    exact this

theorem mX7_sum (n : Nat) (hn : n < 2 ^ 31) : zMet (uR n) yX7_sum cX7_sum 3 (some .int) rX7_sum (sR_sum n) := by
  refine zmet (Y := YX7_sum n) rfl (by decide +kernel) ?_
  intro av F ok ex h
  unfold sR_sum at h
  split at h
  · refine zgo_ok (YX7_sum_ok n) (inv := zi1 4 (fun ls st kc ks G => zWP (YX7_sum n) ok ex 4 ls st kc ks G)) (zone fun _ _ _ _ _ h => h) kX7_sum (List.all_eq_true.mp kX7_sum_ok) 0 _ _ _ _ _ ?_
    exact lX7_sum n hn ok ex F h n 0 (by omega)
  · exact h.elim

end ZR
