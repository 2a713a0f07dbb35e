/-! the reference's loops over ships, its kept states -/
section ZM1
set_option maxRecDepth 20000
def mSz (F : zF) (h : Int32) : Nat → Nat
  | 0 => 0
  | k + 1 => mSz F h k + (if mOf F k 6 = h then 1 else 0)
theorem mSz_le (F : zF) (h : Int32) : ∀ n, mSz F h n ≤ n
  | 0 => Nat.le_refl _
  | k + 1 => by
    have h1 := mSz_le F h k
    show mSz F h k + (if mOf F k 6 = h then 1 else 0) ≤ k + 1
    split <;> omega
def sX9_sizeOf : zSp := fun as F ok _ => match as with
  | [.ref 0, .int h] => ∃ n, n ≤ 16 ∧ F 1 2 = nI n ∧ ok (some (.int (nI (mSz F h n)))) F
  | _ => False
def sX9_shipIn : zSp := fun as F ok _ => match as with
  | [.ref 0, .int h, .int p] => ∃ s, s < 16 ∧ mOf F s 6 = h ∧ mOf F s 7 = p ∧ (∀ j, j < s → ¬ (mOf F j 6 = h ∧ mOf F j 7 = p)) ∧ ok (some (.int (nI s))) F
  | _ => False
def mMost (F : zF) (h : Int32) : Nat → Int32
  | 0 => 0
  | k + 1 => if mOf F k 6 = h then imax (mMost F h k) (mOf F k 2) else mMost F h k
def mPr (F : zF) (n s : Nat) : Int32 := 4 * mMost F (nI s) n + mFd (mWd F s) (F 1 3)
def sX9_priorityOf : zSp := fun as F ok _ => match as with
  | [.ref 0, .int x] => ∃ s n, x = nI s ∧ s < 16 ∧ n ≤ 16 ∧ F 1 2 = nI n ∧ ¬ F 1 3 = 0 ∧ ok (some (.int (mPr F n s))) F
  | _ => False
def mNS (F : zF) (n : Nat) (a b c d : Int32) : zF := zup (zup (zup (zup (zup (zup (zup (zup (zup (zup F 1 2 (nI n + 1)) 1 (53 + 9 * n + 0) a) 1 (53 + 9 * n + 1) b) 1 (53 + 9 * n + 2) c) 1 (53 + 9 * n + 3) d) 1 (53 + 9 * n + 4) (if d = 1 then F 1 1 - 1 else 0)) 1 (53 + 9 * n + 5) (F 1 0)) 1 (53 + 9 * n + 6) (nI n)) 1 (53 + 9 * n + 7) 0) 1 (53 + 9 * n + 8) (-1)
def sX9_newShip : zSp := fun as F ok _ => match as with
  | [.ref 0, .int a, .int b, .int c, .int d] => ∃ n, n < 16 ∧ F 1 2 = nI n ∧ ok (some (.int (nI n))) (mNS F n a b c d)
  | _ => False
def mShift (F : zF) (k : Nat) : zF := fun c i => if c = 2 ∧ i < k then F 2 (197 + i) else F c i
def mPush (F : zF) (u k : Nat) : zF := fun c i => if c = 2 ∧ 197 * u ≤ i ∧ i < 197 * u + k then F 1 (i - 197 * u) else F c i
def mKeep (F : zF) (u : Nat) : zF := if u = 8 then zup (mPush (zup (mShift F 1379) 0 3 7) 7 197) 0 3 8 else zup (mPush F u 197) 0 3 (nI (u + 1))
def sX9_changes : zSp := fun as F ok _ => match as with
  | [.ref 0] => ∃ u, u ≤ 8 ∧ F 0 3 = nI u ∧ ok none (mKeep F u)
  | _ => False

def kX9_sizeOf : List zI := [
  (0, 1, .iconst 0, [], 0),
  (1, 1, .istore_n 2, [], 0),
  (2, 1, .iconst 0, [], 0),
  (3, 1, .istore_n 3, [], 0),
  (4, 1, .iload_n 3, [], 0),
  (5, 1, .aload_n 0, [], 0),
  (6, 3, .getfield 9, [], 0),
  (9, 1, .iconst 2, [], 2),
  (10, 1, .iaload, [], 0),
  (11, 3, .if_icmp .ge 23, [34], 0),
  (14, 1, .aload_n 0, [], 0),
  (15, 1, .iload_n 3, [], 0),
  (16, 2, .bipush 6, [], 6),
  (18, 3, .invokevirtual 75, [], 0),
  (21, 1, .iload_n 1, [], 0),
  (22, 3, .if_icmp .ne 6, [28], 0),
  (25, 3, .iinc 2 1, [], 1),
  (28, 3, .iinc 3 1, [], 1),
  (31, 3, .goto (-27), [4], 0),
  (34, 1, .iload_n 2, [], 0),
  (35, 1, .ireturn, [], 0)]
theorem kX9_sizeOf_ok : kX9_sizeOf.all (zck cX9_sizeOf) = true := by decide +kernel

def rX9_sizeOf : Room := { frames := 1, cells := 0, slots := 0, locals := 22 }
abbrev YX9_sizeOf : zM := (RX9, cX9_sizeOf, 4, some .int, rX9_sizeOf, UM, zlk fX9, zcs [(75, 3, 0, 0, zvs (UM) 9 (sX9_of))] [])
theorem YX9_sizeOf_ok : zYok (YX9_sizeOf) := zYok_of fX9_ok (zall (zcal_mono (zcalV (Y := YX9_sizeOf) (y := yX9_of) (cc := cX9_of) (nL := 3) (ret := some .int) (rm := rX9_of) (mX9_of) 75 2 9 (T := TX9) rfl wX9_75 ⟨by decide +kernel, by decide +kernel, by decide +kernel⟩ (by decide) ⟨Nat.le_of_ble_eq_true rfl, Nat.le_of_ble_eq_true rfl⟩) (fun _ _ _ _ h => zvs_P h)) znil) znil

theorem lX9_sizeOf (ok : zO) (ex : zX) (F : zF) (x : Int32) (n : Nat) (hn : n ≤ 16) (h0 : F 1 2 = nI n) (h : ok (some (.int (nI (mSz F x n)))) F) : ∀ (d k : Nat), k + d = n → zWP YX9_sizeOf ok ex 4 [some (.ref 0), some (.int x), some (.int (nI (mSz F x k))), some (.int (nI k))] [] 0 0 F := by
  intro d
  induction d with
  | zero =>
    intro k hk
    have hk : k = n := hk
    subst hk
    refine zat_ok YX9_sizeOf_ok (inv := zi1 4 (fun ls st kc ks G => zWP YX9_sizeOf ok ex 4 ls st kc ks G)) (zone fun _ _ _ _ _ h => h) kX9_sizeOf (List.all_eq_true.mp kX9_sizeOf_ok) 4 _ _ _ _ _ ?_
    refine Exists.intro (zix (k := 2) rfl (by decide) (by decide)) ?_
    refine And.intro (fun _ => h) (fun h1 => absurd ?_ h1)
    show F 1 2 ≤ nI k
    rw [h0]
    exact nI_le (Nat.le_refl _) (by omega)
  | succ d ih =>
    intro k hk
    refine zat_ok YX9_sizeOf_ok (inv := zi1 4 (fun ls st kc ks G => zWP YX9_sizeOf ok ex 4 ls st kc ks G)) (zone fun _ _ _ _ _ h => h) kX9_sizeOf (List.all_eq_true.mp kX9_sizeOf_ok) 4 _ _ _ _ _ ?_
    refine Exists.intro (zix (k := 2) rfl (by decide) (by decide)) ?_
    refine And.intro (fun h1 => absurd ?_ (nI_ge (a := k) (b := n) (by omega) (by omega))) (fun h1 => ?_)
    · have h1 : F 1 2 ≤ nI k := h1
      rw [h0] at h1
      exact h1
    refine ⟨k, 6, rfl, rfl, by omega, by decide, ?_⟩
    have ih := ih (k + 1) (by omega)
    rw [← nI_1 k] at ih
    refine And.intro (fun h2 => ?_) (fun h2 => ?_)
    · have h2 : ¬ mOf F k 6 = x := h2
      have h3 : mSz F x (k + 1) = mSz F x k := by
        show mSz F x k + (if mOf F k 6 = x then 1 else 0) = mSz F x k
        rw [if_neg h2, Nat.add_zero]
      rw [h3] at ih
      exact ih
    · have h2 : mOf F k 6 = x := h2
      have h3 : mSz F x (k + 1) = mSz F x k + 1 := by
        show mSz F x k + (if mOf F k 6 = x then 1 else 0) = mSz F x k + 1
        rw [if_pos h2]
      rw [h3, ← nI_1] at ih
      exact ih

theorem mX9_sizeOf : zMet (UM) yX9_sizeOf cX9_sizeOf 4 (some .int) rX9_sizeOf (sX9_sizeOf) := by
  refine zmet (Y := YX9_sizeOf) rfl (by decide +kernel) ?_
  intro av F ok ex h
  unfold sX9_sizeOf at h
  split at h
  · rename_i x
    refine zgo_ok (YX9_sizeOf_ok) (inv := zi1 4 (fun ls st kc ks G => zWP YX9_sizeOf ok ex 4 ls st kc ks G)) (zone fun _ _ _ _ _ h => h) kX9_sizeOf (List.all_eq_true.mp kX9_sizeOf_ok) 0 _ _ _ _ _ ?_
    obtain ⟨n, hn, h0, h⟩ := h
    exact lX9_sizeOf ok ex F x n hn h0 h n 0 (Nat.zero_add _)
  · exact h.elim

def kX9_shipIn : List zI := [
  (0, 1, .iconst 0, [], 0),
  (1, 1, .istore_n 3, [], 0),
  (2, 1, .aload_n 0, [], 0),
  (3, 1, .iload_n 3, [], 0),
  (4, 2, .bipush 6, [], 6),
  (6, 3, .invokevirtual 75, [], 0),
  (9, 1, .iload_n 1, [], 0),
  (10, 3, .if_icmp .ne 14, [24], 0),
  (13, 1, .aload_n 0, [], 0),
  (14, 1, .iload_n 3, [], 0),
  (15, 2, .bipush 7, [], 7),
  (17, 3, .invokevirtual 75, [], 0),
  (20, 1, .iload_n 2, [], 0),
  (21, 3, .if_icmp .eq 9, [30], 0),
  (24, 3, .iinc 3 1, [], 1),
  (27, 3, .goto (-25), [2], 0),
  (30, 1, .iload_n 3, [], 0),
  (31, 1, .ireturn, [], 0)]
theorem kX9_shipIn_ok : kX9_shipIn.all (zck cX9_shipIn) = true := by decide +kernel

def rX9_shipIn : Room := { frames := 1, cells := 0, slots := 0, locals := 22 }
abbrev YX9_shipIn : zM := (RX9, cX9_shipIn, 4, some .int, rX9_shipIn, UM, zlk fX9, zcs [(75, 3, 0, 0, zvs (UM) 9 (sX9_of))] [])
theorem YX9_shipIn_ok : zYok (YX9_shipIn) := zYok_of fX9_ok (zall (zcal_mono (zcalV (Y := YX9_shipIn) (y := yX9_of) (cc := cX9_of) (nL := 3) (ret := some .int) (rm := rX9_of) (mX9_of) 75 2 9 (T := TX9) rfl wX9_75 ⟨by decide +kernel, by decide +kernel, by decide +kernel⟩ (by decide) ⟨Nat.le_of_ble_eq_true rfl, Nat.le_of_ble_eq_true rfl⟩) (fun _ _ _ _ h => zvs_P h)) znil) znil

theorem lX9_shipIn (ok : zO) (ex : zX) (F : zF) (x p : Int32) (n : Nat) (hn : n < 16) (h0 : mOf F n 6 = x) (h1 : mOf F n 7 = p) (h2 : ∀ j, j < n → ¬ (mOf F j 6 = x ∧ mOf F j 7 = p)) (h : ok (some (.int (nI n))) F) : ∀ (d k : Nat), k + d = n → zWP YX9_shipIn ok ex 2 [some (.ref 0), some (.int x), some (.int p), some (.int (nI k))] [] 0 0 F := by
  intro d
  induction d with
  | zero =>
    intro k hk
    have hk : k = n := hk
    subst hk
    refine zat_ok YX9_shipIn_ok (inv := zi1 2 (fun ls st kc ks G => zWP YX9_shipIn ok ex 2 ls st kc ks G)) (zone fun _ _ _ _ _ h => h) kX9_shipIn (List.all_eq_true.mp kX9_shipIn_ok) 2 _ _ _ _ _ ?_
    refine ⟨k, 6, rfl, rfl, hn, by decide, ?_⟩
    refine And.intro (fun h3 => absurd h0 h3) (fun _ => ?_)
    refine ⟨k, 7, rfl, rfl, hn, by decide, ?_⟩
    exact And.intro (fun _ => h) (fun h3 => absurd h1 h3)
  | succ d ih =>
    intro k hk
    refine zat_ok YX9_shipIn_ok (inv := zi1 2 (fun ls st kc ks G => zWP YX9_shipIn ok ex 2 ls st kc ks G)) (zone fun _ _ _ _ _ h => h) kX9_shipIn (List.all_eq_true.mp kX9_shipIn_ok) 2 _ _ _ _ _ ?_
    have ih := ih (k + 1) (by omega)
    rw [← nI_1 k] at ih
    refine ⟨k, 6, rfl, rfl, by omega, by decide, ?_⟩
    refine And.intro (fun _ => ih) (fun h3 => ?_)
    refine ⟨k, 7, rfl, rfl, by omega, by decide, ?_⟩
    exact And.intro (fun h4 => absurd ⟨h3, h4⟩ (h2 k (by omega))) (fun _ => ih)

theorem mX9_shipIn : zMet (UM) yX9_shipIn cX9_shipIn 4 (some .int) rX9_shipIn (sX9_shipIn) := by
  refine zmet (Y := YX9_shipIn) rfl (by decide +kernel) ?_
  intro av F ok ex h
  unfold sX9_shipIn at h
  split at h
  · rename_i x p
    refine zgo_ok (YX9_shipIn_ok) (inv := zi1 2 (fun ls st kc ks G => zWP YX9_shipIn ok ex 2 ls st kc ks G)) (zone fun _ _ _ _ _ h => h) kX9_shipIn (List.all_eq_true.mp kX9_shipIn_ok) 0 _ _ _ _ _ ?_
    obtain ⟨n, hn, h0, h1, h2, h⟩ := h
    exact lX9_shipIn ok ex F x p n hn h0 h1 h2 h n 0 (Nat.zero_add _)
  · exact h.elim

def kX9_priorityOf : List zI := [
  (0, 1, .iconst 0, [], 0),
  (1, 1, .istore_n 2, [], 0),
  (2, 1, .iconst 0, [], 0),
  (3, 1, .istore_n 3, [], 0),
  (4, 1, .iload_n 3, [], 0),
  (5, 1, .aload_n 0, [], 0),
  (6, 3, .getfield 9, [], 0),
  (9, 1, .iconst 2, [], 2),
  (10, 1, .iaload, [], 0),
  (11, 3, .if_icmp .ge 31, [42], 0),
  (14, 1, .aload_n 0, [], 0),
  (15, 1, .iload_n 3, [], 0),
  (16, 2, .bipush 6, [], 6),
  (18, 3, .invokevirtual 75, [], 0),
  (21, 1, .iload_n 1, [], 0),
  (22, 3, .if_icmp .ne 14, [36], 0),
  (25, 1, .iload_n 2, [], 0),
  (26, 1, .aload_n 0, [], 0),
  (27, 1, .iload_n 3, [], 0),
  (28, 1, .iconst 2, [], 2),
  (29, 3, .invokevirtual 75, [], 0),
  (32, 3, .invokestatic 145, [], 0),
  (35, 1, .istore_n 2, [], 0),
  (36, 3, .iinc 3 1, [], 1),
  (39, 3, .goto (-35), [4], 0),
  (42, 1, .iconst 4, [], 4),
  (43, 1, .iload_n 2, [], 0),
  (44, 1, .imul, [], 0),
  (45, 1, .aload_n 0, [], 0),
  (46, 1, .iload_n 1, [], 0),
  (47, 3, .invokevirtual 150, [], 0),
  (50, 1, .aload_n 0, [], 0),
  (51, 3, .getfield 9, [], 0),
  (54, 1, .iconst 3, [], 3),
  (55, 1, .iaload, [], 0),
  (56, 3, .invokestatic 153, [], 0),
  (59, 1, .iadd, [], 0),
  (60, 1, .ireturn, [], 0)]
theorem kX9_priorityOf_ok : kX9_priorityOf.all (zck cX9_priorityOf) = true := by decide +kernel

def rX9_priorityOf : Room := { frames := 2, cells := 0, slots := 0, locals := 43 }
abbrev YX9_priorityOf : zM := (RX9, cX9_priorityOf, 4, some .int, rX9_priorityOf, UM, zlk fX9, zcs [(75, 3, 0, 0, zvs (UM) 9 (sX9_of)), (150, 2, 0, 0, zvs (UM) 9 (sX9_waited))] [(145, 2, 0, 0, sJ9_max_7cf53), (153, 2, 0, 0, sJ9_floorDiv_7cf53)])
theorem YX9_priorityOf_ok : zYok (YX9_priorityOf) := zYok_of fX9_ok (zall (zcal_mono (zcalV (Y := YX9_priorityOf) (y := yX9_of) (cc := cX9_of) (nL := 3) (ret := some .int) (rm := rX9_of) (mX9_of) 75 2 9 (T := TX9) rfl wX9_75 ⟨by decide +kernel, by decide +kernel, by decide +kernel⟩ (by decide) ⟨Nat.le_of_ble_eq_true rfl, Nat.le_of_ble_eq_true rfl⟩) (fun _ _ _ _ h => zvs_P h)) (zall (zcal_mono (zcalV (Y := YX9_priorityOf) (y := yX9_waited) (cc := cX9_waited) (nL := 2) (ret := some .int) (rm := rX9_waited) (mX9_waited) 150 1 9 (T := TX9) rfl wX9_150 ⟨by decide +kernel, by decide +kernel, by decide +kernel⟩ (by decide) ⟨Nat.le_of_ble_eq_true rfl, Nat.le_of_ble_eq_true rfl⟩) (fun _ _ _ _ h => zvs_P h)) znil)) (zall (zcalS (Y := YX9_priorityOf) (y := yJ9_max_7cf53) (cc := cJ9_max_7cf53) (nL := 2) (ret := some .int) (rm := rJ9_max_7cf53) (mJ9_max_7cf53 UM) 145 2 wX9_145 ⟨by decide +kernel, by decide +kernel, by decide +kernel⟩ (by decide) ⟨Nat.le_of_ble_eq_true rfl, Nat.le_of_ble_eq_true rfl⟩) (zall (zcalS (Y := YX9_priorityOf) (y := yJ9_floorDiv_7cf53) (cc := cJ9_floorDiv_7cf53) (nL := 3) (ret := some .int) (rm := rJ9_floorDiv_7cf53) (mJ9_floorDiv_7cf53) 153 2 wX9_153 ⟨by decide +kernel, by decide +kernel, by decide +kernel⟩ (by decide) ⟨Nat.le_of_ble_eq_true rfl, Nat.le_of_ble_eq_true rfl⟩) znil))

theorem lX9_priorityOf (ok : zO) (ex : zX) (F : zF) (t n : Nat) (ht : t < 16) (hn : n ≤ 16) (h0 : F 1 2 = nI n) (h9 : ¬ F 1 3 = 0) (h : ok (some (.int (mPr F n t))) F) : ∀ (d k : Nat), k + d = n → zWP YX9_priorityOf ok ex 4 [some (.ref 0), some (.int (nI t)), some (.int (mMost F (nI t) k)), some (.int (nI k))] [] 0 0 F := by
  intro d
  induction d with
  | zero =>
    intro k hk
    have hk : k = n := hk
    subst hk
    refine zat_ok YX9_priorityOf_ok (inv := zi1 4 (fun ls st kc ks G => zWP YX9_priorityOf ok ex 4 ls st kc ks G)) (zone fun _ _ _ _ _ h => h) kX9_priorityOf (List.all_eq_true.mp kX9_priorityOf_ok) 4 _ _ _ _ _ ?_
    refine Exists.intro (zix (k := 2) rfl (by decide) (by decide)) ?_
    refine And.intro (fun _ => ?_) (fun h1 => absurd ?_ h1)
    · refine ⟨t, rfl, ht, ?_⟩
      refine Exists.intro (zix (k := 3) rfl (by decide) (by decide)) ?_
      exact ⟨h9, h⟩
    · show F 1 2 ≤ nI k
      rw [h0]
      exact nI_le (Nat.le_refl _) (by omega)
  | succ d ih =>
    intro k hk
    refine zat_ok YX9_priorityOf_ok (inv := zi1 4 (fun ls st kc ks G => zWP YX9_priorityOf ok ex 4 ls st kc ks G)) (zone fun _ _ _ _ _ h => h) kX9_priorityOf (List.all_eq_true.mp kX9_priorityOf_ok) 4 _ _ _ _ _ ?_
    refine Exists.intro (zix (k := 2) rfl (by decide) (by decide)) ?_
    refine And.intro (fun h1 => absurd ?_ (nI_ge (a := k) (b := n) (by omega) (by omega))) (fun h1 => ?_)
    · have h1 : F 1 2 ≤ nI k := h1
      rw [h0] at h1
      exact h1
    refine ⟨k, 6, rfl, rfl, by omega, by decide, ?_⟩
    have ih := ih (k + 1) (by omega)
    rw [← nI_1 k] at ih
    refine And.intro (fun h2 => ?_) (fun h2 => ?_)
    · have h2 : ¬ mOf F k 6 = nI t := h2
      have h3 : mMost F (nI t) (k + 1) = mMost F (nI t) k := if_neg h2
      rw [h3] at ih
      exact ih
    · have h2 : mOf F k 6 = nI t := h2
      have h3 : mMost F (nI t) (k + 1) = imax (mMost F (nI t) k) (mOf F k 2) := if_pos h2
      rw [h3] at ih
      refine ⟨k, 2, rfl, rfl, by omega, by decide, ?_⟩
      exact ih

theorem mX9_priorityOf : zMet (UM) yX9_priorityOf cX9_priorityOf 4 (some .int) rX9_priorityOf (sX9_priorityOf) := by
  refine zmet (Y := YX9_priorityOf) rfl (by decide +kernel) ?_
  intro av F ok ex h
  unfold sX9_priorityOf at h
  split at h
  · rename_i x
    refine zgo_ok (YX9_priorityOf_ok) (inv := zi1 4 (fun ls st kc ks G => zWP YX9_priorityOf ok ex 4 ls st kc ks G)) (zone fun _ _ _ _ _ h => h) kX9_priorityOf (List.all_eq_true.mp kX9_priorityOf_ok) 0 _ _ _ _ _ ?_
    obtain ⟨t, n, rfl, ht, hn, h0, h1, h⟩ := h
    exact lX9_priorityOf ok ex F t n ht hn h0 h1 h n 0 (Nat.zero_add _)
  · exact h.elim

def kX9_newShip : List zI := [
  (0, 1, .aload_n 0, [], 0),
  (1, 3, .getfield 9, [], 0),
  (4, 1, .iconst 2, [], 2),
  (5, 1, .dup2, [], 0),
  (6, 1, .iaload, [], 0),
  (7, 1, .dup_x2, [], 0),
  (8, 1, .iconst 1, [], 1),
  (9, 1, .iadd, [], 0),
  (10, 1, .iastore, [], 0),
  (11, 2, .istore 5, [], 0),
  (13, 1, .aload_n 0, [], 0),
  (14, 2, .iload 5, [], 0),
  (16, 1, .iconst 0, [], 0),
  (17, 1, .iload_n 1, [], 0),
  (18, 3, .invokevirtual 106, [], 0),
  (21, 1, .aload_n 0, [], 0),
  (22, 2, .iload 5, [], 0),
  (24, 1, .iconst 1, [], 1),
  (25, 1, .iload_n 2, [], 0),
  (26, 3, .invokevirtual 106, [], 0),
  (29, 1, .aload_n 0, [], 0),
  (30, 2, .iload 5, [], 0),
  (32, 1, .iconst 2, [], 2),
  (33, 1, .iload_n 3, [], 0),
  (34, 3, .invokevirtual 106, [], 0),
  (37, 1, .aload_n 0, [], 0),
  (38, 2, .iload 5, [], 0),
  (40, 1, .iconst 3, [], 3),
  (41, 2, .iload 4, [], 0),
  (43, 3, .invokevirtual 106, [], 0),
  (46, 1, .aload_n 0, [], 0),
  (47, 2, .iload 5, [], 0),
  (49, 1, .iconst 4, [], 4),
  (50, 2, .iload 4, [], 0),
  (52, 1, .iconst 1, [], 1),
  (53, 3, .if_icmp .ne 14, [67], 0),
  (56, 1, .aload_n 0, [], 0),
  (57, 3, .getfield 9, [], 0),
  (60, 1, .iconst 1, [], 1),
  (61, 1, .iaload, [], 0),
  (62, 1, .iconst 1, [], 1),
  (63, 1, .isub, [], 0),
  (64, 3, .goto 4, [68], 0),
  (67, 1, .iconst 0, [], 0),
  (68, 3, .invokevirtual 106, [], 0),
  (71, 1, .aload_n 0, [], 0),
  (72, 2, .iload 5, [], 0),
  (74, 1, .iconst 5, [], 5),
  (75, 1, .aload_n 0, [], 0),
  (76, 3, .getfield 9, [], 0),
  (79, 1, .iconst 0, [], 0),
  (80, 1, .iaload, [], 0),
  (81, 3, .invokevirtual 106, [], 0),
  (84, 1, .aload_n 0, [], 0),
  (85, 2, .iload 5, [], 0),
  (87, 2, .bipush 6, [], 6),
  (89, 2, .iload 5, [], 0),
  (91, 3, .invokevirtual 106, [], 0),
  (94, 1, .aload_n 0, [], 0),
  (95, 2, .iload 5, [], 0),
  (97, 2, .bipush 7, [], 7),
  (99, 1, .iconst 0, [], 0),
  (100, 3, .invokevirtual 106, [], 0),
  (103, 1, .aload_n 0, [], 0),
  (104, 2, .iload 5, [], 0),
  (106, 2, .bipush 8, [], 8),
  (108, 1, .iconst (-1), [], (-1)),
  (109, 3, .invokevirtual 106, [], 0),
  (112, 2, .iload 5, [], 0),
  (114, 1, .ireturn, [], 0)]
theorem kX9_newShip_ok : kX9_newShip.all (zck cX9_newShip) = true := by decide +kernel

def rX9_newShip : Room := { frames := 1, cells := 0, slots := 0, locals := 23 }
abbrev YX9_newShip : zM := (RX9, cX9_newShip, 6, some .int, rX9_newShip, UM, zlk fX9, zcs [(106, 4, 0, 0, zvs (UM) 9 (sX9_puts))] [])
theorem YX9_newShip_ok : zYok (YX9_newShip) := zYok_of fX9_ok (zall (zcal_mono (zcalV (Y := YX9_newShip) (y := yX9_puts) (cc := cX9_puts) (nL := 4) (ret := none) (rm := rX9_puts) (mX9_puts) 106 3 9 (T := TX9) rfl wX9_106 ⟨by decide +kernel, by decide +kernel, by decide +kernel⟩ (by decide) ⟨Nat.le_of_ble_eq_true rfl, Nat.le_of_ble_eq_true rfl⟩) (fun _ _ _ _ h => zvs_P h)) znil) znil

theorem mX9_newShip : zMet (UM) yX9_newShip cX9_newShip 6 (some .int) rX9_newShip (sX9_newShip) := by
  refine zmet (Y := YX9_newShip) rfl (by decide +kernel) ?_
  intro av F ok ex h
  unfold sX9_newShip at h
  split at h
  · rename_i a b c d
    refine zgo_ok (YX9_newShip_ok) zno kX9_newShip (List.all_eq_true.mp kX9_newShip_ok) 0 _ _ _ _ _ ?_
    obtain ⟨n, hn, h0, h⟩ := h
    unfold mNS at h
    rw [← h0] at h
    refine Exists.intro (zix (k := 2) rfl (by decide) (by decide)) ?_
    refine Exists.intro (zix (k := 2) rfl (by decide) (by decide)) ?_
    refine ⟨n, 0, h0, rfl, hn, by decide, ?_⟩
    refine ⟨n, 1, h0, rfl, hn, by decide, ?_⟩
    refine ⟨n, 2, h0, rfl, hn, by decide, ?_⟩
    refine ⟨n, 3, h0, rfl, hn, by decide, ?_⟩
    refine And.intro (fun h2 => ?_) (fun h2 => ?_)
    · rw [if_neg h2] at h
      have h3 : (zup (zup (zup (zup (zup (zup F 1 2 (F 1 2 + 1)) 1 (53 + 9 * n + 0) a) 1 (53 + 9 * n + 1) b) 1 (53 + 9 * n + 2) c) 1 (53 + 9 * n + 3) d) 1 (53 + 9 * n + 4) (0)) 1 0 = F 1 0 := by
        rw [zup_an _ _ _ (by omega), zup_an _ _ _ (by omega), zup_an _ _ _ (by omega), zup_an _ _ _ (by omega), zup_an _ _ _ (by omega), zup_an _ _ _ (by decide)]
      rw [← h3] at h
      skip
      refine ⟨n, 4, h0, rfl, hn, by decide, ?_⟩
      refine Exists.intro (zix (k := 0) rfl (by decide) (by decide)) ?_
      refine ⟨n, 5, h0, rfl, hn, by decide, ?_⟩
      refine ⟨n, 6, h0, rfl, hn, by decide, ?_⟩
      refine ⟨n, 7, h0, rfl, hn, by decide, ?_⟩
      refine ⟨n, 8, h0, rfl, hn, by decide, ?_⟩
      exact h
    · rw [if_pos h2] at h
      have h4 : (zup (zup (zup (zup (zup F 1 2 (F 1 2 + 1)) 1 (53 + 9 * n + 0) a) 1 (53 + 9 * n + 1) b) 1 (53 + 9 * n + 2) c) 1 (53 + 9 * n + 3) d) 1 1 = F 1 1 := by
        rw [zup_an _ _ _ (by omega), zup_an _ _ _ (by omega), zup_an _ _ _ (by omega), zup_an _ _ _ (by omega), zup_an _ _ _ (by decide)]
      rw [← h4] at h
      have h3 : (zup (zup (zup (zup (zup (zup F 1 2 (F 1 2 + 1)) 1 (53 + 9 * n + 0) a) 1 (53 + 9 * n + 1) b) 1 (53 + 9 * n + 2) c) 1 (53 + 9 * n + 3) d) 1 (53 + 9 * n + 4) ((zup (zup (zup (zup (zup F 1 2 (F 1 2 + 1)) 1 (53 + 9 * n + 0) a) 1 (53 + 9 * n + 1) b) 1 (53 + 9 * n + 2) c) 1 (53 + 9 * n + 3) d) 1 1 - 1)) 1 0 = F 1 0 := by
        rw [zup_an _ _ _ (by omega), zup_an _ _ _ (by omega), zup_an _ _ _ (by omega), zup_an _ _ _ (by omega), zup_an _ _ _ (by omega), zup_an _ _ _ (by decide)]
      rw [← h3] at h
      refine Exists.intro (zix (k := 1) rfl (by decide) (by decide)) ?_
      refine ⟨n, 4, h0, rfl, hn, by decide, ?_⟩
      refine Exists.intro (zix (k := 0) rfl (by decide) (by decide)) ?_
      refine ⟨n, 5, h0, rfl, hn, by decide, ?_⟩
      refine ⟨n, 6, h0, rfl, hn, by decide, ?_⟩
      refine ⟨n, 7, h0, rfl, hn, by decide, ?_⟩
      refine ⟨n, 8, h0, rfl, hn, by decide, ?_⟩
      exact h
  · exact h.elim

def kX9_changes : List zI := [
  (0, 1, .aload_n 0, [], 0),
  (1, 3, .getfield 52, [], 0),
  (4, 2, .bipush 8, [], 8),
  (6, 3, .if_icmp .ne 44, [50], 0),
  (9, 1, .iconst 0, [], 0),
  (10, 1, .istore_n 1, [], 0),
  (11, 1, .iload_n 1, [], 0),
  (12, 3, .sipush 1379, [], 1379),
  (15, 3, .if_icmp .ge 25, [40], 0),
  (18, 1, .aload_n 0, [], 0),
  (19, 3, .getfield 13, [], 0),
  (22, 1, .iload_n 1, [], 0),
  (23, 1, .aload_n 0, [], 0),
  (24, 3, .getfield 13, [], 0),
  (27, 3, .sipush 197, [], 197),
  (30, 1, .iload_n 1, [], 0),
  (31, 1, .iadd, [], 0),
  (32, 1, .iaload, [], 0),
  (33, 1, .iastore, [], 0),
  (34, 3, .iinc 1 1, [], 1),
  (37, 3, .goto (-26), [11], 0),
  (40, 1, .aload_n 0, [], 0),
  (41, 1, .dup, [], 0),
  (42, 3, .getfield 52, [], 0),
  (45, 1, .iconst 1, [], 1),
  (46, 1, .isub, [], 0),
  (47, 3, .putfield 52, [], 0),
  (50, 1, .iconst 0, [], 0),
  (51, 1, .istore_n 1, [], 0),
  (52, 1, .iload_n 1, [], 0),
  (53, 3, .sipush 197, [], 197),
  (56, 3, .if_icmp .ge 30, [86], 0),
  (59, 1, .aload_n 0, [], 0),
  (60, 3, .getfield 13, [], 0),
  (63, 3, .sipush 197, [], 197),
  (66, 1, .aload_n 0, [], 0),
  (67, 3, .getfield 52, [], 0),
  (70, 1, .imul, [], 0),
  (71, 1, .iload_n 1, [], 0),
  (72, 1, .iadd, [], 0),
  (73, 1, .aload_n 0, [], 0),
  (74, 3, .getfield 9, [], 0),
  (77, 1, .iload_n 1, [], 0),
  (78, 1, .iaload, [], 0),
  (79, 1, .iastore, [], 0),
  (80, 3, .iinc 1 1, [], 1),
  (83, 3, .goto (-31), [52], 0),
  (86, 1, .aload_n 0, [], 0),
  (87, 1, .dup, [], 0),
  (88, 3, .getfield 52, [], 0),
  (91, 1, .iconst 1, [], 1),
  (92, 1, .iadd, [], 0),
  (93, 3, .putfield 52, [], 0),
  (96, 1, .return_, [], 0)]
theorem kX9_changes_ok : kX9_changes.all (zck cX9_changes) = true := by decide +kernel

def rX9_changes : Room := { frames := 0, cells := 0, slots := 0, locals := 0 }
abbrev YX9_changes : zM := (RX9, cX9_changes, 2, none, rX9_changes, UM, zlk fX9, zcs [] [])
theorem YX9_changes_ok : zYok (YX9_changes) := zYok_of fX9_ok znil znil

theorem mPush_0 (G : zF) (u : Nat) : mPush G u 0 = G := by
  funext c i
  unfold mPush
  rw [if_neg (by omega)]
theorem mPush_ne (G : zF) (u k : Nat) {c : Nat} (h : c ≠ 2) : mPush G u k c = G c := by
  funext i
  unfold mPush
  rw [if_neg (fun h0 => h h0.1)]
theorem mPush_s (G : zF) (u k : Nat) : zup (mPush G u k) 2 (197 * u + k) (G 1 k) = mPush G u (k + 1) := by
  funext c i
  unfold zup mPush
  by_cases hc : c = 2
  · subst hc
    rw [if_pos rfl]
    by_cases hi : i = 197 * u + k
    · subst hi
      rw [if_pos rfl, if_pos ⟨rfl, by omega, by omega⟩]
      congr 1
      omega
    · rw [if_neg hi]
      by_cases h2 : 197 * u ≤ i ∧ i < 197 * u + k
      · rw [if_pos ⟨rfl, h2.1, h2.2⟩, if_pos ⟨rfl, h2.1, by omega⟩]
      · rw [if_neg (fun h0 => h2 h0.2), if_neg (fun h0 => h2 ⟨h0.2.1, by omega⟩)]
  · rw [if_neg hc, if_neg (fun h0 => hc h0.1), if_neg (fun h0 => hc h0.1)]
theorem mShift_0 (G : zF) : mShift G 0 = G := by
  funext c i
  unfold mShift
  rw [if_neg (by omega)]
theorem mShift_ne (G : zF) (k : Nat) {c : Nat} (h : c ≠ 2) : mShift G k c = G c := by
  funext i
  unfold mShift
  rw [if_neg (fun h0 => h h0.1)]
theorem mShift_s (G : zF) (k : Nat) : zup (mShift G k) 2 k (mShift G k 2 (197 + k)) = mShift G (k + 1) := by
  funext c i
  unfold zup mShift
  by_cases hc : c = 2
  · subst hc
    rw [if_pos rfl]
    by_cases hi : i = k
    · subst hi
      rw [if_pos rfl, if_neg (show ¬ (2 = 2 ∧ 197 + i < i) by omega), if_pos ⟨rfl, by omega⟩]
    · rw [if_neg hi]
      by_cases h2 : i < k
      · rw [if_pos ⟨rfl, h2⟩, if_pos ⟨rfl, by omega⟩]
      · rw [if_neg (fun h0 => h2 h0.2), if_neg (fun h0 => h2 (by omega))]
  · rw [if_neg hc, if_neg (fun h0 => hc h0.1), if_neg (fun h0 => hc h0.1)]
theorem ix_ke (u k : Nat) : 197 * nI u + nI k = nI (197 * u + k) := by
  rw [show (197 : Int32) = nI 197 from rfl, nI_mulc, nI_add]
theorem ix_sh (k : Nat) : 197 + nI k = nI (197 + k) := by
  rw [show (197 : Int32) = nI 197 from rfl, nI_add]
theorem lX9_push (ok : zO) (ex : zX) (G : zF) (u : Nat) (hu : u < 8) (h0 : G 0 3 = nI u) (h : ok none (zup (mPush G u 197) 0 3 (nI (u + 1)))) : ∀ (d k : Nat), k + d = 197 → zWP YX9_changes ok ex 52 [some (.ref 0), some (.int (nI k))] [] 0 0 (mPush G u k) := by
  intro d
  induction d with
  | zero =>
    intro k hk
    have hk : k = 197 := hk
    subst hk
    refine zat_ok YX9_changes_ok (inv := zi2 11 (fun ls st kc ks G => zWP YX9_changes ok ex 11 ls st kc ks G) 52 (fun ls st kc ks G => zWP YX9_changes ok ex 52 ls st kc ks G)) (ztwo (fun _ _ _ _ _ h => h) (fun _ _ _ _ _ h => h)) kX9_changes (List.all_eq_true.mp kX9_changes_ok) 52 _ _ _ _ _ ?_
    refine And.intro (fun _ => ?_) (fun h1 => absurd (by decide) h1)
    refine zleaf ok h rfl ?_
    show zup (mPush G u 197) 0 3 (nI (u + 1)) = zup (mPush G u 197) 0 3 (mPush G u 197 0 3 + 1)
    rw [mPush_ne G u 197 (by decide), h0, nI_1]
  | succ d ih =>
    intro k hk
    refine zat_ok YX9_changes_ok (inv := zi2 11 (fun ls st kc ks G => zWP YX9_changes ok ex 11 ls st kc ks G) 52 (fun ls st kc ks G => zWP YX9_changes ok ex 52 ls st kc ks G)) (ztwo (fun _ _ _ _ _ h => h) (fun _ _ _ _ _ h => h)) kX9_changes (List.all_eq_true.mp kX9_changes_ok) 52 _ _ _ _ _ ?_
    refine And.intro (fun h1 => absurd h1 (nI_ge (a := k) (b := 197) (by omega) (by decide))) (fun h1 => ?_)
    refine Exists.intro (zix rfl (by omega) (by decide)) ?_
    have h3 : 197 * mPush G u k 0 3 + nI k = nI (197 * u + k) := by
      rw [mPush_ne G u k (by decide), h0, ix_ke]
    refine Exists.intro (zix h3 (by omega) (by decide)) ?_
    have ih := ih (k + 1) (by omega)
    rw [← nI_1 k, ← mPush_s] at ih
    show zWP YX9_changes ok ex 52 [some (.ref 0), some (.int (nI k + 1))] [] 0 0 (zup (mPush G u k) 2 (197 * mPush G u k 0 3 + nI k).toNatClampNeg (mPush G u k 1 (nI k).toNatClampNeg))
    rw [zicl h3 (by omega), nI_clamp (by omega), mPush_ne G u k (c := 1) (by decide)]
    exact ih
theorem lX9_shift (ok : zO) (ex : zX) (G : zF) (h0 : G 0 3 = nI 8) (h : ok none (zup (mPush (zup (mShift G 1379) 0 3 7) 7 197) 0 3 8)) : ∀ (d k : Nat), k + d = 1379 → zWP YX9_changes ok ex 11 [some (.ref 0), some (.int (nI k))] [] 0 0 (mShift G k) := by
  intro d
  induction d with
  | zero =>
    intro k hk
    have hk : k = 1379 := hk
    subst hk
    refine zat_ok YX9_changes_ok (inv := zi2 11 (fun ls st kc ks G => zWP YX9_changes ok ex 11 ls st kc ks G) 52 (fun ls st kc ks G => zWP YX9_changes ok ex 52 ls st kc ks G)) (ztwo (fun _ _ _ _ _ h => h) (fun _ _ _ _ _ h => h)) kX9_changes (List.all_eq_true.mp kX9_changes_ok) 11 _ _ _ _ _ ?_
    refine And.intro (fun _ => ?_) (fun h1 => absurd (by decide) h1)
    have h5 := lX9_push ok ex (zup (mShift G 1379) 0 3 7) 7 (by decide) (zup_at _ _ _ _) h 197 0 rfl
    rw [mPush_0] at h5
    have h6 : mShift G 1379 0 3 - 1 = 7 := by
      rw [mShift_ne G 1379 (by decide), h0]
      decide
    rw [← h6] at h5
    exact h5
  | succ d ih =>
    intro k hk
    refine zat_ok YX9_changes_ok (inv := zi2 11 (fun ls st kc ks G => zWP YX9_changes ok ex 11 ls st kc ks G) 52 (fun ls st kc ks G => zWP YX9_changes ok ex 52 ls st kc ks G)) (ztwo (fun _ _ _ _ _ h => h) (fun _ _ _ _ _ h => h)) kX9_changes (List.all_eq_true.mp kX9_changes_ok) 11 _ _ _ _ _ ?_
    refine And.intro (fun h1 => absurd h1 (nI_ge (a := k) (b := 1379) (by omega) (by decide))) (fun h1 => ?_)
    refine Exists.intro (zix (ix_sh k) (by omega) (by decide)) ?_
    refine Exists.intro (zix rfl (by omega) (by decide)) ?_
    have ih := ih (k + 1) (by omega)
    rw [← nI_1 k, ← mShift_s] at ih
    show zWP YX9_changes ok ex 11 [some (.ref 0), some (.int (nI k + 1))] [] 0 0 (zup (mShift G k) 2 (nI k).toNatClampNeg (mShift G k 2 (197 + nI k).toNatClampNeg))
    rw [zicl (ix_sh k) (by omega), nI_clamp (by omega)]
    exact ih

theorem mX9_changes : zMet (UM) yX9_changes cX9_changes 2 (none) rX9_changes (sX9_changes) := by
  refine zmet (Y := YX9_changes) rfl (by decide +kernel) ?_
  intro av F ok ex h
  unfold sX9_changes at h
  split at h
  · refine zgo_ok (YX9_changes_ok) (inv := zi2 11 (fun ls st kc ks G => zWP YX9_changes ok ex 11 ls st kc ks G) 52 (fun ls st kc ks G => zWP YX9_changes ok ex 52 ls st kc ks G)) (ztwo (fun _ _ _ _ _ h => h) (fun _ _ _ _ _ h => h)) kX9_changes (List.all_eq_true.mp kX9_changes_ok) 0 _ _ _ _ _ ?_
    obtain ⟨u, hu, h0, h⟩ := h
    unfold mKeep at h
    refine And.intro (fun h1 => ?_) (fun h1 => ?_)
    · have h1 : ¬ F 0 3 = 8 := h1
      have h2 : ¬ u = 8 := fun h3 => h1 (by rw [h0, h3]; rfl)
      rw [if_neg h2] at h
      have h5 := lX9_push ok ex F u (by omega) h0 h 197 0 rfl
      rw [mPush_0] at h5
      exact h5
    · have h1 : F 0 3 = 8 := h1
      have h2 : u = 8 := by
        rw [h0] at h1
        exact (nI_eq (by omega) (by decide)).mp h1
      rw [if_pos h2] at h
      have h5 := lX9_shift ok ex F h1 h 1379 0 rfl
      rw [mShift_0] at h5
      exact h5
  · exact h.elim

end ZM1
