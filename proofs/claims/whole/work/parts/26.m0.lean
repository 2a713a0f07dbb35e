/-! the reference's own object: its world, its small helps -/
section ZM0
set_option maxRecDepth 20000
def lMo : List zS := [(0, 9, [none, some 1, some 2, none, some 3, none, some 4, some 5, none, none, none, none, some 6, some 7, none, some 8, none, some 9, none]), (1, 197, []), (1, 1576, []), (1, 197, []), (1, 197, []), (1, 50, []), (1, 200, []), (1, 16, []), (1, 16, []), (2, 16, [])]
def UM : zU := (10, fun k => (znth lMo k).getD (1, 0, []))
theorem UM_small : zsmall UM := by
  have h : ∀ k, k < 10 → (UM.2 k).2.1 < 2 ^ 31 := by decide +kernel
  exact h
theorem zix {x : Int32} {k n : Nat} (hx : x = nI k) (hk : k < n) (hn : n < 2 ^ 31) : vp_in x n := by
  rw [hx]
  exact vp_in_nI hk hn
theorem zicl {x : Int32} {k : Nat} (hx : x = nI k) (hk : k < 2 ^ 31) : x.toNatClampNeg = k := by
  rw [hx]
  exact nI_clamp hk
theorem nI_mulc (a b : Nat) : nI a * nI b = nI (a * b) := (Int32.ofNat_mul a b).symm
theorem ix_of (s w : Nat) : 53 + 9 * nI s + nI w = nI (53 + 9 * s + w) := by
  rw [show (53 : Int32) = nI 53 from rfl, show (9 : Int32) = nI 9 from rfl, nI_mulc, nI_add, nI_add]
theorem ix_lp (s w : Nat) : 25 + 7 * nI s + nI w = nI (25 + 7 * s + w) := by
  rw [show (25 : Int32) = nI 25 from rfl, show (7 : Int32) = nI 7 from rfl, nI_mulc, nI_add, nI_add]
theorem ix_re (s : Nat) : 10 + 3 * nI s = nI (10 + 3 * s) := by
  rw [show (10 : Int32) = nI 10 from rfl, show (3 : Int32) = nI 3 from rfl, nI_mulc, nI_add]
theorem ix_re1 (s : Nat) : 10 + 3 * nI s + 1 = nI (10 + 3 * s + 1) := by rw [ix_re, nI_1]
theorem ix_re2 (s : Nat) : 10 + 3 * nI s + 2 = nI (10 + 3 * s + 2) := by rw [ix_re, show (2 : Int32) = nI 2 from rfl, nI_add]
theorem zup_zup (F : zF) (j i : Nat) (a b : Int32) : zup (zup F j i a) j i b = zup F j i b := by
  funext x y
  unfold zup
  split
  · split <;> rfl
  · rfl
def mOf (F : zF) (s w : Nat) : Int32 := F 1 (53 + 9 * s + w)
def mLP (F : zF) (s w : Nat) : Int32 := F 1 (25 + 7 * s + w)
def mWa (F : zF) (r : Nat) : Int32 := F 1 (10 + 3 * r + 2)
def mLev (F : zF) (r : Nat) : Int32 := mWa F r / F 1 (10 + 3 * r)
def mDry (F : zF) (r : Nat) : Int32 := if F 1 (10 + 3 * r + 1) - mLev F r ≤ 2 then 0 else if F 1 (10 + 3 * r + 1) - mLev F r ≤ 6 then 1 else 2
def mLk (F : zF) (s : Nat) : Int32 := if mOf F s 4 < 0 then -1 else if mOf F s 3 = 1 then mOf F s 4 - 1 else mOf F s 4
def mWd (F : zF) (s : Nat) : Int32 := if mOf F s 4 < 0 then 0 else F 1 0 - mOf F s 5
def mNx (F : zF) (s : Nat) : Int32 := if mOf F s 3 = 1 then mOf F s 4 - 1 else mOf F s 4 + 1
def mFd (x y : Int32) : Int32 := if 0 ≤ (x ^^^ y) then x / y else if x / y * y = x then x / y else x / y - 1
def mBit (k : Nat) : Nat := k % 2 + k / 2 % 2 + k / 4 % 2
def mHe (F : zF) : Int32 := if F 0 9 < F 0 8 then F 5 (F 0 9).toNatClampNeg else 0
def sX9_in : zSp := fun as F ok _ => match as with
  | [.int x, .int a, .int b] => zbo (a ≤ x ∧ x ≤ b) F ok
  | _ => False
def sX9_raises : zSp := fun as F ok _ => match as with
  | [.ref 0, .int c] => ok (some (.int 0)) (zup F 0 0 c)
  | _ => False
def sX9_refuses : zSp := fun as F ok _ => match as with
  | [.ref 0, .int r, .int c] => ok (some (.int 0)) (zup (zup F 0 11 r) 0 0 c)
  | _ => False
def sX9_isReach : zSp := fun as F ok _ => match as with
  | [.ref 0, .int r] => zbo (0 ≤ r ∧ r ≤ F 1 1 - 1) F ok
  | _ => False
def sX9_isLock : zSp := fun as F ok _ => match as with
  | [.ref 0, .int r] => zbo (0 ≤ r ∧ r ≤ F 1 1 - 2) F ok
  | _ => False
def sX9_isShip : zSp := fun as F ok _ => match as with
  | [.ref 0, .int r] => zbo (0 ≤ r ∧ r ≤ F 1 2 - 1) F ok
  | _ => False
def sX9_thrown : zSp := fun as F ok _ => match as with
  | [.ref 0] => ok (some (.int (F 0 0))) F
  | _ => False
def sX9_tick : zSp := fun as F ok _ => match as with
  | [.ref 0] => ok (some (.int (F 1 0))) (zup F 0 0 0)
  | _ => False
def sX9_faultPosition : zSp := fun as F ok _ => match as with
  | [.ref 0] => ok (some (.int (F 0 10))) (zup F 0 0 0)
  | _ => False
def sX9_refusal : zSp := fun as F ok _ => match as with
  | [.ref 0] => ok (some (.int (F 0 11))) (zup F 0 0 (if F 0 11 = 0 then 1 else 0))
  | _ => False
def sX9_water : zSp := fun as F ok _ => match as with
  | [.ref 0, .int x] => ∃ r, x = nI r ∧ r < 5 ∧ ok (some (.int (mWa F r))) F
  | _ => False
def sX9_level : zSp := fun as F ok _ => match as with
  | [.ref 0, .int x] => ∃ r, x = nI r ∧ r < 5 ∧ ¬ F 1 (10 + 3 * r) = 0 ∧ ok (some (.int (mLev F r))) F
  | _ => False
def sX9_dryness : zSp := fun as F ok _ => match as with
  | [.ref 0, .int x] => ∃ r, x = nI r ∧ r < 5 ∧ ¬ F 1 (10 + 3 * r) = 0 ∧ ok (some (.int (mDry F r))) F
  | _ => False
def sX9_lockPart : zSp := fun as F ok _ => match as with
  | [.ref 0, .int x, .int y] => ∃ k w, x = nI k ∧ y = nI w ∧ k < 4 ∧ w < 7 ∧ ok (some (.int (mLP F k w))) F
  | _ => False
def sX9_quarter : zSp := fun as F ok _ => match as with
  | [.ref 0, .int x] => ∃ k, x = nI k ∧ k < 4 ∧ ok (some (.int (mLP F k 1 / 4))) F
  | _ => False
def sX9_lacks : zSp := fun as F ok _ => match as with
  | [.ref 0, .int x, .int b] => ∃ k, x = nI k ∧ k < 4 ∧ ok (some (.int (mLP F k 1 - mLP F k 1 / 4 * b))) F
  | _ => False
def sX9_of : zSp := fun as F ok _ => match as with
  | [.ref 0, .int x, .int y] => ∃ s w, x = nI s ∧ y = nI w ∧ s < 16 ∧ w < 9 ∧ ok (some (.int (mOf F s w))) F
  | _ => False
def sX9_puts : zSp := fun as F ok _ => match as with
  | [.ref 0, .int x, .int y, .int v] => ∃ s w, x = nI s ∧ y = nI w ∧ s < 16 ∧ w < 9 ∧ ok none (zup F 1 (53 + 9 * s + w) v)
  | _ => False
def sX9_lockOf : zSp := fun as F ok _ => match as with
  | [.ref 0, .int x] => ∃ s, x = nI s ∧ s < 16 ∧ ok (some (.int (mLk F s))) F
  | _ => False
def sX9_waited : zSp := fun as F ok _ => match as with
  | [.ref 0, .int x] => ∃ s, x = nI s ∧ s < 16 ∧ ok (some (.int (mWd F s))) F
  | _ => False
def sX9_next : zSp := fun as F ok _ => match as with
  | [.ref 0, .int x] => ∃ s, x = nI s ∧ s < 16 ∧ ok (some (.int (mNx F s))) F
  | _ => False
def sX9_here : zSp := fun as F ok _ => match as with
  | [.ref 0] => (F 0 9 < F 0 8 → vp_in (F 0 9) 50) ∧ ok (some (.int (mHe F))) F
  | _ => False
def sX9_takes : zSp := fun as F ok _ => match as with
  | [.ref 0, .int c] => (F 0 9 < F 0 8 → vp_in (F 0 9) 50) ∧ ((¬ F 0 9 = F 0 8 ∧ mHe F = c) → ok (some (.int 1)) (zup F 0 9 (F 0 9 + 1))) ∧ (¬ (¬ F 0 9 = F 0 8 ∧ mHe F = c) → ok (some (.int 0)) F)
  | _ => False
def sJ9_floorDiv_7cf53 : zSp := fun as F ok _ => match as with
  | [.int x, .int y] => ¬ y = 0 ∧ ok (some (.int (mFd x y))) F
  | _ => False
def sJ6_bitCount_0f7a4 : zSp := fun as F ok _ => match as with
  | [.int x] => ∃ k, k < 8 ∧ x = nI k ∧ ok (some (.int (nI (mBit k)))) F
  | _ => False
def mBc (x : Int32) : Int32 := nI (mBit x.toNatClampNeg)
def mHd (F : zF) (k : Nat) : Int32 := mLP F k 3 * mLP F k 1 + mLP F k 1 / 4 * mBc (mLP F k 4)
def sX9_held : zSp := fun as F ok _ => match as with
  | [.ref 0, .int x] => ∃ k, x = nI k ∧ k < 4 ∧ (∃ b, b < 8 ∧ mLP F k 4 = nI b) ∧ ok (some (.int (mHd F k))) F
  | _ => False

def kJ9_floorDiv_7cf53 : List zI := [
  (0, 1, .iload_n 0, [], 0),
  (1, 1, .iload_n 1, [], 0),
  (2, 1, .idiv, [], 0),
  (3, 1, .istore_n 2, [], 0),
  (4, 1, .iload_n 0, [], 0),
  (5, 1, .iload_n 1, [], 0),
  (6, 1, .ixor, [], 0),
  (7, 3, .ifCond .ge 14, [21], 0),
  (10, 1, .iload_n 2, [], 0),
  (11, 1, .iload_n 1, [], 0),
  (12, 1, .imul, [], 0),
  (13, 1, .iload_n 0, [], 0),
  (14, 3, .if_icmp .eq 7, [21], 0),
  (17, 1, .iload_n 2, [], 0),
  (18, 1, .iconst 1, [], 1),
  (19, 1, .isub, [], 0),
  (20, 1, .ireturn, [], 0),
  (21, 1, .iload_n 2, [], 0),
  (22, 1, .ireturn, [], 0)]
theorem kJ9_floorDiv_7cf53_ok : kJ9_floorDiv_7cf53.all (zck cJ9_floorDiv_7cf53) = true := by decide +kernel

def rJ9_floorDiv_7cf53 : Room := { frames := 0, cells := 0, slots := 0, locals := 0 }
abbrev YJ9_floorDiv_7cf53 : zM := (RJ9, cJ9_floorDiv_7cf53, 3, some .int, rJ9_floorDiv_7cf53, UM, zlk ([] : List (Nat × Nat × Nat × Nat)), zcs [] [])
theorem YJ9_floorDiv_7cf53_ok : zYok (YJ9_floorDiv_7cf53) := zYok_of rfl znil znil

theorem mJ9_floorDiv_7cf53 : zMet (UM) yJ9_floorDiv_7cf53 cJ9_floorDiv_7cf53 3 (some .int) rJ9_floorDiv_7cf53 (sJ9_floorDiv_7cf53) := by
  refine zmet (Y := YJ9_floorDiv_7cf53) rfl (by decide +kernel) ?_
  intro av F ok ex h
  unfold sJ9_floorDiv_7cf53 at h
  split at h
  · rename_i x y
    refine zgo_ok (YJ9_floorDiv_7cf53_ok) zno kJ9_floorDiv_7cf53 (List.all_eq_true.mp kJ9_floorDiv_7cf53_ok) 0 _ _ _ _ _ ?_
    obtain ⟨h0, h⟩ := h
    unfold mFd at h
    refine Exists.intro h0 ?_
    refine And.intro (fun h1 => ?_) (fun h1 => ?_)
    · rw [if_pos h1] at h
      exact h
    · rw [if_neg h1] at h
      refine And.intro (fun h2 => ?_) (fun h2 => ?_)
      · rw [if_pos h2] at h
        exact h
      · rw [if_neg h2] at h
        exact h
  · exact h.elim

def kJ6_bitCount_0f7a4 : List zI := [
  (0, 1, .iload_n 0, [], 0),
  (1, 1, .iload_n 0, [], 0),
  (2, 1, .iconst 1, [], 1),
  (3, 1, .iushr, [], 0),
  (4, 3, .ldc_w 265, [], 1431655765),
  (7, 1, .iand, [], 0),
  (8, 1, .isub, [], 0),
  (9, 1, .istore_n 0, [], 0),
  (10, 1, .iload_n 0, [], 0),
  (11, 3, .ldc_w 266, [], 858993459),
  (14, 1, .iand, [], 0),
  (15, 1, .iload_n 0, [], 0),
  (16, 1, .iconst 2, [], 2),
  (17, 1, .iushr, [], 0),
  (18, 3, .ldc_w 266, [], 858993459),
  (21, 1, .iand, [], 0),
  (22, 1, .iadd, [], 0),
  (23, 1, .istore_n 0, [], 0),
  (24, 1, .iload_n 0, [], 0),
  (25, 1, .iload_n 0, [], 0),
  (26, 1, .iconst 4, [], 4),
  (27, 1, .iushr, [], 0),
  (28, 1, .iadd, [], 0),
  (29, 3, .ldc_w 267, [], 252645135),
  (32, 1, .iand, [], 0),
  (33, 1, .istore_n 0, [], 0),
  (34, 1, .iload_n 0, [], 0),
  (35, 1, .iload_n 0, [], 0),
  (36, 2, .bipush 8, [], 8),
  (38, 1, .iushr, [], 0),
  (39, 1, .iadd, [], 0),
  (40, 1, .istore_n 0, [], 0),
  (41, 1, .iload_n 0, [], 0),
  (42, 1, .iload_n 0, [], 0),
  (43, 2, .bipush 16, [], 16),
  (45, 1, .iushr, [], 0),
  (46, 1, .iadd, [], 0),
  (47, 1, .istore_n 0, [], 0),
  (48, 1, .iload_n 0, [], 0),
  (49, 2, .bipush 63, [], 63),
  (51, 1, .iand, [], 0),
  (52, 1, .ireturn, [], 0)]
theorem kJ6_bitCount_0f7a4_ok : kJ6_bitCount_0f7a4.all (zck cJ6_bitCount_0f7a4) = true := by decide +kernel

def rJ6_bitCount_0f7a4 : Room := { frames := 0, cells := 0, slots := 0, locals := 0 }
abbrev YJ6_bitCount_0f7a4 : zM := (RJ6, cJ6_bitCount_0f7a4, 1, some .int, rJ6_bitCount_0f7a4, UM, zlk ([] : List (Nat × Nat × Nat × Nat)), zcs [] [])
theorem YJ6_bitCount_0f7a4_ok : zYok (YJ6_bitCount_0f7a4) := zYok_of rfl znil znil

theorem mJ6_bitCount_0f7a4 : zMet (UM) yJ6_bitCount_0f7a4 cJ6_bitCount_0f7a4 1 (some .int) rJ6_bitCount_0f7a4 (sJ6_bitCount_0f7a4) := by
  refine zmet (Y := YJ6_bitCount_0f7a4) rfl (by decide +kernel) ?_
  intro av F ok ex h
  unfold sJ6_bitCount_0f7a4 at h
  split at h
  · rename_i x
    refine zgo_ok (YJ6_bitCount_0f7a4_ok) zno kJ6_bitCount_0f7a4 (List.all_eq_true.mp kJ6_bitCount_0f7a4_ok) 0 _ _ _ _ _ ?_
    obtain ⟨b, hb, h1, h⟩ := h
    subst h1
    refine Exists.intro (zmem_of (by decide +kernel)) ?_
    refine Exists.intro (zmem_of (by decide +kernel)) ?_
    refine Exists.intro (zmem_of (by decide +kernel)) ?_
    refine Exists.intro (zmem_of (by decide +kernel)) ?_
    rcases z8_or hb with rfl | rfl | rfl | rfl | rfl | rfl | rfl | rfl
    all_goals exact zleaf ok h (by decide +kernel) rfl
  · exact h.elim

def kX9_in : List zI := [
  (0, 1, .iload_n 0, [], 0),
  (1, 1, .iload_n 1, [], 0),
  (2, 3, .if_icmp .lt 12, [14], 0),
  (5, 1, .iload_n 0, [], 0),
  (6, 1, .iload_n 2, [], 0),
  (7, 3, .if_icmp .gt 7, [14], 0),
  (10, 1, .iconst 1, [], 1),
  (11, 3, .goto 4, [15], 0),
  (14, 1, .iconst 0, [], 0),
  (15, 1, .ireturn, [], 0)]
theorem kX9_in_ok : kX9_in.all (zck cX9_in) = true := by decide +kernel

def rX9_in : Room := { frames := 0, cells := 0, slots := 0, locals := 0 }
abbrev YX9_in : zM := (RX9, cX9_in, 3, some .boolean, rX9_in, UM, zlk fX9, zcs [] [])
theorem YX9_in_ok : zYok (YX9_in) := zYok_of fX9_ok znil znil

theorem mX9_in : zMet (UM) yX9_in cX9_in 3 (some .boolean) rX9_in (sX9_in) := by
  refine zmet (Y := YX9_in) rfl (by decide +kernel) ?_
  intro av F ok ex h
  unfold sX9_in at h
  split at h
  · rename_i x a b
    refine zgo_ok (YX9_in_ok) zno kX9_in (List.all_eq_true.mp kX9_in_ok) 0 _ _ _ _ _ ?_
    refine And.intro (fun h1 => Exists.intro (Or.inl rfl) (h.2 fun h0 => absurd h1 (Int32.not_lt.mpr h0.1))) (fun h1 => ?_)
    refine And.intro (fun h2 => Exists.intro (Or.inl rfl) (h.2 fun h0 => absurd h2 (Int32.not_lt.mpr h0.2))) (fun h2 => Exists.intro (Or.inr rfl) (h.1 ⟨Int32.not_lt.mp h1, Int32.not_lt.mp h2⟩))
  · exact h.elim

def kX9_raises : List zI := [
  (0, 1, .aload_n 0, [], 0),
  (1, 1, .iload_n 1, [], 0),
  (2, 3, .putfield 42, [], 0),
  (5, 1, .iconst 0, [], 0),
  (6, 1, .ireturn, [], 0)]
theorem kX9_raises_ok : kX9_raises.all (zck cX9_raises) = true := by decide +kernel

def rX9_raises : Room := { frames := 0, cells := 0, slots := 0, locals := 0 }
abbrev YX9_raises : zM := (RX9, cX9_raises, 2, some .int, rX9_raises, UM, zlk fX9, zcs [] [])
theorem YX9_raises_ok : zYok (YX9_raises) := zYok_of fX9_ok znil znil

theorem mX9_raises : zMet (UM) yX9_raises cX9_raises 2 (some .int) rX9_raises (sX9_raises) := by
  refine zmet (Y := YX9_raises) rfl (by decide +kernel) ?_
  intro av F ok ex h
  unfold sX9_raises at h
  split at h
  · rename_i c
    refine zgo_ok (YX9_raises_ok) zno kX9_raises (List.all_eq_true.mp kX9_raises_ok) 0 _ _ _ _ _ ?_
    exact h
  · exact h.elim

def kX9_refuses : List zI := [
  (0, 1, .aload_n 0, [], 0),
  (1, 1, .iload_n 1, [], 0),
  (2, 3, .putfield 45, [], 0),
  (5, 1, .aload_n 0, [], 0),
  (6, 1, .iload_n 2, [], 0),
  (7, 3, .invokevirtual 48, [], 0),
  (10, 1, .ireturn, [], 0)]
theorem kX9_refuses_ok : kX9_refuses.all (zck cX9_refuses) = true := by decide +kernel

def rX9_refuses : Room := { frames := 1, cells := 0, slots := 0, locals := 21 }
abbrev YX9_refuses : zM := (RX9, cX9_refuses, 3, some .int, rX9_refuses, UM, zlk fX9, zcs [(48, 2, 0, 0, zvs (UM) 9 (sX9_raises))] [])
theorem YX9_refuses_ok : zYok (YX9_refuses) := zYok_of fX9_ok (zall (zcal_mono (zcalV (Y := YX9_refuses) (y := yX9_raises) (cc := cX9_raises) (nL := 2) (ret := some .int) (rm := rX9_raises) (mX9_raises) 48 1 9 (T := TX9) rfl wX9_48 ⟨by decide +kernel, by decide +kernel, by decide +kernel⟩ (by decide) ⟨Nat.le_of_ble_eq_true rfl, Nat.le_of_ble_eq_true rfl⟩) (fun _ _ _ _ h => zvs_P h)) znil) znil

theorem mX9_refuses : zMet (UM) yX9_refuses cX9_refuses 3 (some .int) rX9_refuses (sX9_refuses) := by
  refine zmet (Y := YX9_refuses) rfl (by decide +kernel) ?_
  intro av F ok ex h
  unfold sX9_refuses at h
  split at h
  · rename_i r c
    refine zgo_ok (YX9_refuses_ok) zno kX9_refuses (List.all_eq_true.mp kX9_refuses_ok) 0 _ _ _ _ _ ?_
    exact h
  · exact h.elim

def kX9_isReach : List zI := [
  (0, 1, .iload_n 1, [], 0),
  (1, 1, .iconst 0, [], 0),
  (2, 1, .aload_n 0, [], 0),
  (3, 3, .getfield 9, [], 0),
  (6, 1, .iconst 1, [], 1),
  (7, 1, .iaload, [], 0),
  (8, 1, .iconst 1, [], 1),
  (9, 1, .isub, [], 0),
  (10, 3, .invokestatic 55, [], 0),
  (13, 1, .ireturn, [], 0)]
theorem kX9_isReach_ok : kX9_isReach.all (zck cX9_isReach) = true := by decide +kernel

def rX9_isReach : Room := { frames := 1, cells := 0, slots := 0, locals := 22 }
abbrev YX9_isReach : zM := (RX9, cX9_isReach, 2, some .boolean, rX9_isReach, UM, zlk fX9, zcs [] [(55, 3, 0, 0, sX9_in)])
theorem YX9_isReach_ok : zYok (YX9_isReach) := zYok_of fX9_ok znil (zall (zcalS (Y := YX9_isReach) (y := yX9_in) (cc := cX9_in) (nL := 3) (ret := some .boolean) (rm := rX9_in) (mX9_in) 55 3 wX9_55 ⟨by decide +kernel, by decide +kernel, by decide +kernel⟩ (by decide) ⟨Nat.le_of_ble_eq_true rfl, Nat.le_of_ble_eq_true rfl⟩) znil)

theorem mX9_isReach : zMet (UM) yX9_isReach cX9_isReach 2 (some .boolean) rX9_isReach (sX9_isReach) := by
  refine zmet (Y := YX9_isReach) rfl (by decide +kernel) ?_
  intro av F ok ex h
  unfold sX9_isReach at h
  split at h
  · rename_i r
    refine zgo_ok (YX9_isReach_ok) zno kX9_isReach (List.all_eq_true.mp kX9_isReach_ok) 0 _ _ _ _ _ ?_
    refine Exists.intro (zix (k := 1) rfl (by decide) (by decide)) ?_
    exact And.intro (fun h1 => Exists.intro (Or.inr rfl) (h.1 h1)) (fun h1 => Exists.intro (Or.inl rfl) (h.2 h1))
  · exact h.elim

def kX9_isLock : List zI := [
  (0, 1, .iload_n 1, [], 0),
  (1, 1, .iconst 0, [], 0),
  (2, 1, .aload_n 0, [], 0),
  (3, 3, .getfield 9, [], 0),
  (6, 1, .iconst 1, [], 1),
  (7, 1, .iaload, [], 0),
  (8, 1, .iconst 2, [], 2),
  (9, 1, .isub, [], 0),
  (10, 3, .invokestatic 55, [], 0),
  (13, 1, .ireturn, [], 0)]
theorem kX9_isLock_ok : kX9_isLock.all (zck cX9_isLock) = true := by decide +kernel

def rX9_isLock : Room := { frames := 1, cells := 0, slots := 0, locals := 22 }
abbrev YX9_isLock : zM := (RX9, cX9_isLock, 2, some .boolean, rX9_isLock, UM, zlk fX9, zcs [] [(55, 3, 0, 0, sX9_in)])
theorem YX9_isLock_ok : zYok (YX9_isLock) := zYok_of fX9_ok znil (zall (zcalS (Y := YX9_isLock) (y := yX9_in) (cc := cX9_in) (nL := 3) (ret := some .boolean) (rm := rX9_in) (mX9_in) 55 3 wX9_55 ⟨by decide +kernel, by decide +kernel, by decide +kernel⟩ (by decide) ⟨Nat.le_of_ble_eq_true rfl, Nat.le_of_ble_eq_true rfl⟩) znil)

theorem mX9_isLock : zMet (UM) yX9_isLock cX9_isLock 2 (some .boolean) rX9_isLock (sX9_isLock) := by
  refine zmet (Y := YX9_isLock) rfl (by decide +kernel) ?_
  intro av F ok ex h
  unfold sX9_isLock at h
  split at h
  · rename_i r
    refine zgo_ok (YX9_isLock_ok) zno kX9_isLock (List.all_eq_true.mp kX9_isLock_ok) 0 _ _ _ _ _ ?_
    refine Exists.intro (zix (k := 1) rfl (by decide) (by decide)) ?_
    exact And.intro (fun h1 => Exists.intro (Or.inr rfl) (h.1 h1)) (fun h1 => Exists.intro (Or.inl rfl) (h.2 h1))
  · exact h.elim

def kX9_isShip : List zI := [
  (0, 1, .iload_n 1, [], 0),
  (1, 1, .iconst 0, [], 0),
  (2, 1, .aload_n 0, [], 0),
  (3, 3, .getfield 9, [], 0),
  (6, 1, .iconst 2, [], 2),
  (7, 1, .iaload, [], 0),
  (8, 1, .iconst 1, [], 1),
  (9, 1, .isub, [], 0),
  (10, 3, .invokestatic 55, [], 0),
  (13, 1, .ireturn, [], 0)]
theorem kX9_isShip_ok : kX9_isShip.all (zck cX9_isShip) = true := by decide +kernel

def rX9_isShip : Room := { frames := 1, cells := 0, slots := 0, locals := 22 }
abbrev YX9_isShip : zM := (RX9, cX9_isShip, 2, some .boolean, rX9_isShip, UM, zlk fX9, zcs [] [(55, 3, 0, 0, sX9_in)])
theorem YX9_isShip_ok : zYok (YX9_isShip) := zYok_of fX9_ok znil (zall (zcalS (Y := YX9_isShip) (y := yX9_in) (cc := cX9_in) (nL := 3) (ret := some .boolean) (rm := rX9_in) (mX9_in) 55 3 wX9_55 ⟨by decide +kernel, by decide +kernel, by decide +kernel⟩ (by decide) ⟨Nat.le_of_ble_eq_true rfl, Nat.le_of_ble_eq_true rfl⟩) znil)

theorem mX9_isShip : zMet (UM) yX9_isShip cX9_isShip 2 (some .boolean) rX9_isShip (sX9_isShip) := by
  refine zmet (Y := YX9_isShip) rfl (by decide +kernel) ?_
  intro av F ok ex h
  unfold sX9_isShip at h
  split at h
  · rename_i r
    refine zgo_ok (YX9_isShip_ok) zno kX9_isShip (List.all_eq_true.mp kX9_isShip_ok) 0 _ _ _ _ _ ?_
    refine Exists.intro (zix (k := 2) rfl (by decide) (by decide)) ?_
    exact And.intro (fun h1 => Exists.intro (Or.inr rfl) (h.1 h1)) (fun h1 => Exists.intro (Or.inl rfl) (h.2 h1))
  · exact h.elim

def kX9_thrown : List zI := [
  (0, 1, .aload_n 0, [], 0),
  (1, 3, .getfield 42, [], 0),
  (4, 1, .ireturn, [], 0)]
theorem kX9_thrown_ok : kX9_thrown.all (zck cX9_thrown) = true := by decide +kernel

def rX9_thrown : Room := { frames := 0, cells := 0, slots := 0, locals := 0 }
abbrev YX9_thrown : zM := (RX9, cX9_thrown, 1, some .int, rX9_thrown, UM, zlk fX9, zcs [] [])
theorem YX9_thrown_ok : zYok (YX9_thrown) := zYok_of fX9_ok znil znil

theorem mX9_thrown : zMet (UM) yX9_thrown cX9_thrown 1 (some .int) rX9_thrown (sX9_thrown) := by
  refine zmet (Y := YX9_thrown) rfl (by decide +kernel) ?_
  intro av F ok ex h
  unfold sX9_thrown at h
  split at h
  · refine zgo_ok (YX9_thrown_ok) zno kX9_thrown (List.all_eq_true.mp kX9_thrown_ok) 0 _ _ _ _ _ ?_
    exact h
  · exact h.elim

def kX9_tick : List zI := [
  (0, 1, .aload_n 0, [], 0),
  (1, 1, .iconst 0, [], 0),
  (2, 3, .putfield 42, [], 0),
  (5, 1, .aload_n 0, [], 0),
  (6, 3, .getfield 9, [], 0),
  (9, 1, .iconst 0, [], 0),
  (10, 1, .iaload, [], 0),
  (11, 1, .ireturn, [], 0)]
theorem kX9_tick_ok : kX9_tick.all (zck cX9_tick) = true := by decide +kernel

def rX9_tick : Room := { frames := 0, cells := 0, slots := 0, locals := 0 }
abbrev YX9_tick : zM := (RX9, cX9_tick, 1, some .int, rX9_tick, UM, zlk fX9, zcs [] [])
theorem YX9_tick_ok : zYok (YX9_tick) := zYok_of fX9_ok znil znil

theorem mX9_tick : zMet (UM) yX9_tick cX9_tick 1 (some .int) rX9_tick (sX9_tick) := by
  refine zmet (Y := YX9_tick) rfl (by decide +kernel) ?_
  intro av F ok ex h
  unfold sX9_tick at h
  split at h
  · refine zgo_ok (YX9_tick_ok) zno kX9_tick (List.all_eq_true.mp kX9_tick_ok) 0 _ _ _ _ _ ?_
    exact Exists.intro (zix (k := 0) rfl (by decide) (by decide)) h
  · exact h.elim

def kX9_faultPosition : List zI := [
  (0, 1, .aload_n 0, [], 0),
  (1, 1, .iconst 0, [], 0),
  (2, 3, .putfield 42, [], 0),
  (5, 1, .aload_n 0, [], 0),
  (6, 3, .getfield 25, [], 0),
  (9, 1, .ireturn, [], 0)]
theorem kX9_faultPosition_ok : kX9_faultPosition.all (zck cX9_faultPosition) = true := by decide +kernel

def rX9_faultPosition : Room := { frames := 0, cells := 0, slots := 0, locals := 0 }
abbrev YX9_faultPosition : zM := (RX9, cX9_faultPosition, 1, some .int, rX9_faultPosition, UM, zlk fX9, zcs [] [])
theorem YX9_faultPosition_ok : zYok (YX9_faultPosition) := zYok_of fX9_ok znil znil

theorem mX9_faultPosition : zMet (UM) yX9_faultPosition cX9_faultPosition 1 (some .int) rX9_faultPosition (sX9_faultPosition) := by
  refine zmet (Y := YX9_faultPosition) rfl (by decide +kernel) ?_
  intro av F ok ex h
  unfold sX9_faultPosition at h
  split at h
  · refine zgo_ok (YX9_faultPosition_ok) zno kX9_faultPosition (List.all_eq_true.mp kX9_faultPosition_ok) 0 _ _ _ _ _ ?_
    exact h
  · exact h.elim

def kX9_refusal : List zI := [
  (0, 1, .aload_n 0, [], 0),
  (1, 1, .iconst 0, [], 0),
  (2, 3, .putfield 42, [], 0),
  (5, 1, .aload_n 0, [], 0),
  (6, 3, .getfield 45, [], 0),
  (9, 3, .ifCond .ne 11, [20], 0),
  (12, 1, .aload_n 0, [], 0),
  (13, 1, .iconst 1, [], 1),
  (14, 3, .invokevirtual 48, [], 0),
  (17, 3, .goto 7, [24], 0),
  (20, 1, .aload_n 0, [], 0),
  (21, 3, .getfield 45, [], 0),
  (24, 1, .ireturn, [], 0)]
theorem kX9_refusal_ok : kX9_refusal.all (zck cX9_refusal) = true := by decide +kernel

def rX9_refusal : Room := { frames := 1, cells := 0, slots := 0, locals := 21 }
abbrev YX9_refusal : zM := (RX9, cX9_refusal, 1, some .int, rX9_refusal, UM, zlk fX9, zcs [(48, 2, 0, 0, zvs (UM) 9 (sX9_raises))] [])
theorem YX9_refusal_ok : zYok (YX9_refusal) := zYok_of fX9_ok (zall (zcal_mono (zcalV (Y := YX9_refusal) (y := yX9_raises) (cc := cX9_raises) (nL := 2) (ret := some .int) (rm := rX9_raises) (mX9_raises) 48 1 9 (T := TX9) rfl wX9_48 ⟨by decide +kernel, by decide +kernel, by decide +kernel⟩ (by decide) ⟨Nat.le_of_ble_eq_true rfl, Nat.le_of_ble_eq_true rfl⟩) (fun _ _ _ _ h => zvs_P h)) znil) znil

theorem mX9_refusal : zMet (UM) yX9_refusal cX9_refusal 1 (some .int) rX9_refusal (sX9_refusal) := by
  refine zmet (Y := YX9_refusal) rfl (by decide +kernel) ?_
  intro av F ok ex h
  unfold sX9_refusal at h
  split at h
  · refine zgo_ok (YX9_refusal_ok) zno kX9_refusal (List.all_eq_true.mp kX9_refusal_ok) 0 _ _ _ _ _ ?_
    refine And.intro (fun h1 => ?_) (fun h1 => ?_)
    · have h1 : ¬ F 0 11 = 0 := h1
      rw [if_neg h1] at h
      exact h
    · have h1 : F 0 11 = 0 := h1
      rw [if_pos h1, h1] at h
      refine zleaf ok h rfl ?_
      show zup F 0 0 1 = zup (zup F 0 0 0) 0 0 1
      rw [zup_zup]
  · exact h.elim

def kX9_water : List zI := [
  (0, 1, .aload_n 0, [], 0),
  (1, 3, .getfield 9, [], 0),
  (4, 2, .bipush 10, [], 10),
  (6, 1, .iconst 3, [], 3),
  (7, 1, .iload_n 1, [], 0),
  (8, 1, .imul, [], 0),
  (9, 1, .iadd, [], 0),
  (10, 1, .iconst 2, [], 2),
  (11, 1, .iadd, [], 0),
  (12, 1, .iaload, [], 0),
  (13, 1, .ireturn, [], 0)]
theorem kX9_water_ok : kX9_water.all (zck cX9_water) = true := by decide +kernel

def rX9_water : Room := { frames := 0, cells := 0, slots := 0, locals := 0 }
abbrev YX9_water : zM := (RX9, cX9_water, 2, some .int, rX9_water, UM, zlk fX9, zcs [] [])
theorem YX9_water_ok : zYok (YX9_water) := zYok_of fX9_ok znil znil

theorem mX9_water : zMet (UM) yX9_water cX9_water 2 (some .int) rX9_water (sX9_water) := by
  refine zmet (Y := YX9_water) rfl (by decide +kernel) ?_
  intro av F ok ex h
  unfold sX9_water at h
  split at h
  · rename_i x
    refine zgo_ok (YX9_water_ok) zno kX9_water (List.all_eq_true.mp kX9_water_ok) 0 _ _ _ _ _ ?_
    obtain ⟨r, rfl, hr, h⟩ := h
    refine Exists.intro (zix (ix_re2 r) (by omega) (by decide)) ?_
    show ok (some (.int (F 1 (10 + 3 * nI r + 2).toNatClampNeg))) F
    rw [zicl (ix_re2 r) (by omega)]
    exact h
  · exact h.elim

def kX9_level : List zI := [
  (0, 1, .aload_n 0, [], 0),
  (1, 1, .iload_n 1, [], 0),
  (2, 3, .invokevirtual 62, [], 0),
  (5, 1, .aload_n 0, [], 0),
  (6, 3, .getfield 9, [], 0),
  (9, 2, .bipush 10, [], 10),
  (11, 1, .iconst 3, [], 3),
  (12, 1, .iload_n 1, [], 0),
  (13, 1, .imul, [], 0),
  (14, 1, .iadd, [], 0),
  (15, 1, .iaload, [], 0),
  (16, 1, .idiv, [], 0),
  (17, 1, .ireturn, [], 0)]
theorem kX9_level_ok : kX9_level.all (zck cX9_level) = true := by decide +kernel

def rX9_level : Room := { frames := 1, cells := 0, slots := 0, locals := 21 }
abbrev YX9_level : zM := (RX9, cX9_level, 2, some .int, rX9_level, UM, zlk fX9, zcs [(62, 2, 0, 0, zvs (UM) 9 (sX9_water))] [])
theorem YX9_level_ok : zYok (YX9_level) := zYok_of fX9_ok (zall (zcal_mono (zcalV (Y := YX9_level) (y := yX9_water) (cc := cX9_water) (nL := 2) (ret := some .int) (rm := rX9_water) (mX9_water) 62 1 9 (T := TX9) rfl wX9_62 ⟨by decide +kernel, by decide +kernel, by decide +kernel⟩ (by decide) ⟨Nat.le_of_ble_eq_true rfl, Nat.le_of_ble_eq_true rfl⟩) (fun _ _ _ _ h => zvs_P h)) znil) znil

theorem mX9_level : zMet (UM) yX9_level cX9_level 2 (some .int) rX9_level (sX9_level) := by
  refine zmet (Y := YX9_level) rfl (by decide +kernel) ?_
  intro av F ok ex h
  unfold sX9_level at h
  split at h
  · rename_i x
    refine zgo_ok (YX9_level_ok) zno kX9_level (List.all_eq_true.mp kX9_level_ok) 0 _ _ _ _ _ ?_
    obtain ⟨r, rfl, hr, h0, h⟩ := h
    refine ⟨r, rfl, hr, ?_⟩
    refine Exists.intro (zix (ix_re r) (by omega) (by decide)) ?_
    refine Exists.intro ?_ ?_
    · show ¬ F 1 (10 + 3 * nI r).toNatClampNeg = 0
      rw [zicl (ix_re r) (by omega)]
      exact h0
    · show ok (some (.int (mWa F r / F 1 (10 + 3 * nI r).toNatClampNeg))) F
      rw [zicl (ix_re r) (by omega)]
      exact h
  · exact h.elim

def kX9_dryness : List zI := [
  (0, 1, .aload_n 0, [], 0),
  (1, 3, .getfield 9, [], 0),
  (4, 2, .bipush 10, [], 10),
  (6, 1, .iconst 3, [], 3),
  (7, 1, .iload_n 1, [], 0),
  (8, 1, .imul, [], 0),
  (9, 1, .iadd, [], 0),
  (10, 1, .iconst 1, [], 1),
  (11, 1, .iadd, [], 0),
  (12, 1, .iaload, [], 0),
  (13, 1, .aload_n 0, [], 0),
  (14, 1, .iload_n 1, [], 0),
  (15, 3, .invokevirtual 65, [], 0),
  (18, 1, .isub, [], 0),
  (19, 1, .istore_n 2, [], 0),
  (20, 1, .iload_n 2, [], 0),
  (21, 1, .iconst 2, [], 2),
  (22, 3, .if_icmp .gt 7, [29], 0),
  (25, 1, .iconst 0, [], 0),
  (26, 3, .goto 14, [40], 0),
  (29, 1, .iload_n 2, [], 0),
  (30, 2, .bipush 6, [], 6),
  (32, 3, .if_icmp .gt 7, [39], 0),
  (35, 1, .iconst 1, [], 1),
  (36, 3, .goto 4, [40], 0),
  (39, 1, .iconst 2, [], 2),
  (40, 1, .ireturn, [], 0)]
theorem kX9_dryness_ok : kX9_dryness.all (zck cX9_dryness) = true := by decide +kernel

def rX9_dryness : Room := { frames := 2, cells := 0, slots := 0, locals := 42 }
abbrev YX9_dryness : zM := (RX9, cX9_dryness, 3, some .int, rX9_dryness, UM, zlk fX9, zcs [(65, 2, 0, 0, zvs (UM) 9 (sX9_level))] [])
theorem YX9_dryness_ok : zYok (YX9_dryness) := zYok_of fX9_ok (zall (zcal_mono (zcalV (Y := YX9_dryness) (y := yX9_level) (cc := cX9_level) (nL := 2) (ret := some .int) (rm := rX9_level) (mX9_level) 65 1 9 (T := TX9) rfl wX9_65 ⟨by decide +kernel, by decide +kernel, by decide +kernel⟩ (by decide) ⟨Nat.le_of_ble_eq_true rfl, Nat.le_of_ble_eq_true rfl⟩) (fun _ _ _ _ h => zvs_P h)) znil) znil

theorem mX9_dryness : zMet (UM) yX9_dryness cX9_dryness 3 (some .int) rX9_dryness (sX9_dryness) := by
  refine zmet (Y := YX9_dryness) rfl (by decide +kernel) ?_
  intro av F ok ex h
  unfold sX9_dryness at h
  split at h
  · rename_i x
    refine zgo_ok (YX9_dryness_ok) zno kX9_dryness (List.all_eq_true.mp kX9_dryness_ok) 0 _ _ _ _ _ ?_
    obtain ⟨r, rfl, hr, h0, h⟩ := h
    refine Exists.intro (zix (ix_re1 r) (by omega) (by decide)) ?_
    refine ⟨r, rfl, hr, h0, ?_⟩
    have h5 : (10 + 3 * nI r + 1).toNatClampNeg = 10 + 3 * r + 1 := zicl (ix_re1 r) (by omega)
    unfold mDry at h
    rw [← h5] at h
    refine And.intro (fun h1 => ?_) (fun h1 => ?_)
    · rw [if_neg (Int32.not_le.mpr h1)] at h
      refine And.intro (fun h2 => ?_) (fun h2 => ?_)
      · rw [if_neg (Int32.not_le.mpr h2)] at h
        exact h
      · rw [if_pos (Int32.not_lt.mp h2)] at h
        exact h
    · rw [if_pos (Int32.not_lt.mp h1)] at h
      exact h
  · exact h.elim

def kX9_lockPart : List zI := [
  (0, 1, .aload_n 0, [], 0),
  (1, 3, .getfield 9, [], 0),
  (4, 2, .bipush 25, [], 25),
  (6, 2, .bipush 7, [], 7),
  (8, 1, .iload_n 1, [], 0),
  (9, 1, .imul, [], 0),
  (10, 1, .iadd, [], 0),
  (11, 1, .iload_n 2, [], 0),
  (12, 1, .iadd, [], 0),
  (13, 1, .iaload, [], 0),
  (14, 1, .ireturn, [], 0)]
theorem kX9_lockPart_ok : kX9_lockPart.all (zck cX9_lockPart) = true := by decide +kernel

def rX9_lockPart : Room := { frames := 0, cells := 0, slots := 0, locals := 0 }
abbrev YX9_lockPart : zM := (RX9, cX9_lockPart, 3, some .int, rX9_lockPart, UM, zlk fX9, zcs [] [])
theorem YX9_lockPart_ok : zYok (YX9_lockPart) := zYok_of fX9_ok znil znil

theorem mX9_lockPart : zMet (UM) yX9_lockPart cX9_lockPart 3 (some .int) rX9_lockPart (sX9_lockPart) := by
  refine zmet (Y := YX9_lockPart) rfl (by decide +kernel) ?_
  intro av F ok ex h
  unfold sX9_lockPart at h
  split at h
  · rename_i x y
    refine zgo_ok (YX9_lockPart_ok) zno kX9_lockPart (List.all_eq_true.mp kX9_lockPart_ok) 0 _ _ _ _ _ ?_
    obtain ⟨k, w, rfl, rfl, hk, hw, h⟩ := h
    refine Exists.intro (zix (ix_lp k w) (by omega) (by decide)) ?_
    show ok (some (.int (F 1 (25 + 7 * nI k + nI w).toNatClampNeg))) F
    rw [zicl (ix_lp k w) (by omega)]
    exact h
  · exact h.elim

def kX9_quarter : List zI := [
  (0, 1, .aload_n 0, [], 0),
  (1, 1, .iload_n 1, [], 0),
  (2, 1, .iconst 1, [], 1),
  (3, 3, .invokevirtual 79, [], 0),
  (6, 1, .iconst 4, [], 4),
  (7, 1, .idiv, [], 0),
  (8, 1, .ireturn, [], 0)]
theorem kX9_quarter_ok : kX9_quarter.all (zck cX9_quarter) = true := by decide +kernel

def rX9_quarter : Room := { frames := 1, cells := 0, slots := 0, locals := 22 }
abbrev YX9_quarter : zM := (RX9, cX9_quarter, 2, some .int, rX9_quarter, UM, zlk fX9, zcs [(79, 3, 0, 0, zvs (UM) 9 (sX9_lockPart))] [])
theorem YX9_quarter_ok : zYok (YX9_quarter) := zYok_of fX9_ok (zall (zcal_mono (zcalV (Y := YX9_quarter) (y := yX9_lockPart) (cc := cX9_lockPart) (nL := 3) (ret := some .int) (rm := rX9_lockPart) (mX9_lockPart) 79 2 9 (T := TX9) rfl wX9_79 ⟨by decide +kernel, by decide +kernel, by decide +kernel⟩ (by decide) ⟨Nat.le_of_ble_eq_true rfl, Nat.le_of_ble_eq_true rfl⟩) (fun _ _ _ _ h => zvs_P h)) znil) znil

theorem mX9_quarter : zMet (UM) yX9_quarter cX9_quarter 2 (some .int) rX9_quarter (sX9_quarter) := by
  refine zmet (Y := YX9_quarter) rfl (by decide +kernel) ?_
  intro av F ok ex h
  unfold sX9_quarter at h
  split at h
  · rename_i x
    refine zgo_ok (YX9_quarter_ok) zno kX9_quarter (List.all_eq_true.mp kX9_quarter_ok) 0 _ _ _ _ _ ?_
    obtain ⟨k, rfl, hk, h⟩ := h
    refine ⟨k, 1, rfl, rfl, hk, by decide, ?_⟩
    exact Exists.intro (by decide) h
  · exact h.elim

def kX9_lacks : List zI := [
  (0, 1, .aload_n 0, [], 0),
  (1, 1, .iload_n 1, [], 0),
  (2, 1, .iconst 1, [], 1),
  (3, 3, .invokevirtual 79, [], 0),
  (6, 1, .aload_n 0, [], 0),
  (7, 1, .iload_n 1, [], 0),
  (8, 3, .invokevirtual 82, [], 0),
  (11, 1, .iload_n 2, [], 0),
  (12, 1, .imul, [], 0),
  (13, 1, .isub, [], 0),
  (14, 1, .ireturn, [], 0)]
theorem kX9_lacks_ok : kX9_lacks.all (zck cX9_lacks) = true := by decide +kernel

def rX9_lacks : Room := { frames := 2, cells := 0, slots := 0, locals := 43 }
abbrev YX9_lacks : zM := (RX9, cX9_lacks, 3, some .int, rX9_lacks, UM, zlk fX9, zcs [(79, 3, 0, 0, zvs (UM) 9 (sX9_lockPart)), (82, 2, 0, 0, zvs (UM) 9 (sX9_quarter))] [])
theorem YX9_lacks_ok : zYok (YX9_lacks) := zYok_of fX9_ok (zall (zcal_mono (zcalV (Y := YX9_lacks) (y := yX9_lockPart) (cc := cX9_lockPart) (nL := 3) (ret := some .int) (rm := rX9_lockPart) (mX9_lockPart) 79 2 9 (T := TX9) rfl wX9_79 ⟨by decide +kernel, by decide +kernel, by decide +kernel⟩ (by decide) ⟨Nat.le_of_ble_eq_true rfl, Nat.le_of_ble_eq_true rfl⟩) (fun _ _ _ _ h => zvs_P h)) (zall (zcal_mono (zcalV (Y := YX9_lacks) (y := yX9_quarter) (cc := cX9_quarter) (nL := 2) (ret := some .int) (rm := rX9_quarter) (mX9_quarter) 82 1 9 (T := TX9) rfl wX9_82 ⟨by decide +kernel, by decide +kernel, by decide +kernel⟩ (by decide) ⟨Nat.le_of_ble_eq_true rfl, Nat.le_of_ble_eq_true rfl⟩) (fun _ _ _ _ h => zvs_P h)) znil)) znil

theorem mX9_lacks : zMet (UM) yX9_lacks cX9_lacks 3 (some .int) rX9_lacks (sX9_lacks) := by
  refine zmet (Y := YX9_lacks) rfl (by decide +kernel) ?_
  intro av F ok ex h
  unfold sX9_lacks at h
  split at h
  · rename_i x b
    refine zgo_ok (YX9_lacks_ok) zno kX9_lacks (List.all_eq_true.mp kX9_lacks_ok) 0 _ _ _ _ _ ?_
    obtain ⟨k, rfl, hk, h⟩ := h
    refine ⟨k, 1, rfl, rfl, hk, by decide, ?_⟩
    refine ⟨k, rfl, hk, ?_⟩
    exact h
  · exact h.elim

def kX9_of : List zI := [
  (0, 1, .aload_n 0, [], 0),
  (1, 3, .getfield 9, [], 0),
  (4, 2, .bipush 53, [], 53),
  (6, 2, .bipush 9, [], 9),
  (8, 1, .iload_n 1, [], 0),
  (9, 1, .imul, [], 0),
  (10, 1, .iadd, [], 0),
  (11, 1, .iload_n 2, [], 0),
  (12, 1, .iadd, [], 0),
  (13, 1, .iaload, [], 0),
  (14, 1, .ireturn, [], 0)]
theorem kX9_of_ok : kX9_of.all (zck cX9_of) = true := by decide +kernel

def rX9_of : Room := { frames := 0, cells := 0, slots := 0, locals := 0 }
abbrev YX9_of : zM := (RX9, cX9_of, 3, some .int, rX9_of, UM, zlk fX9, zcs [] [])
theorem YX9_of_ok : zYok (YX9_of) := zYok_of fX9_ok znil znil

theorem mX9_of : zMet (UM) yX9_of cX9_of 3 (some .int) rX9_of (sX9_of) := by
  refine zmet (Y := YX9_of) rfl (by decide +kernel) ?_
  intro av F ok ex h
  unfold sX9_of at h
  split at h
  · rename_i x y
    refine zgo_ok (YX9_of_ok) zno kX9_of (List.all_eq_true.mp kX9_of_ok) 0 _ _ _ _ _ ?_
    obtain ⟨k, w, rfl, rfl, hk, hw, h⟩ := h
    refine Exists.intro (zix (ix_of k w) (by omega) (by decide)) ?_
    show ok (some (.int (F 1 (53 + 9 * nI k + nI w).toNatClampNeg))) F
    rw [zicl (ix_of k w) (by omega)]
    exact h
  · exact h.elim

def kX9_puts : List zI := [
  (0, 1, .aload_n 0, [], 0),
  (1, 3, .getfield 9, [], 0),
  (4, 2, .bipush 53, [], 53),
  (6, 2, .bipush 9, [], 9),
  (8, 1, .iload_n 1, [], 0),
  (9, 1, .imul, [], 0),
  (10, 1, .iadd, [], 0),
  (11, 1, .iload_n 2, [], 0),
  (12, 1, .iadd, [], 0),
  (13, 1, .iload_n 3, [], 0),
  (14, 1, .iastore, [], 0),
  (15, 1, .return_, [], 0)]
theorem kX9_puts_ok : kX9_puts.all (zck cX9_puts) = true := by decide +kernel

def rX9_puts : Room := { frames := 0, cells := 0, slots := 0, locals := 0 }
abbrev YX9_puts : zM := (RX9, cX9_puts, 4, none, rX9_puts, UM, zlk fX9, zcs [] [])
theorem YX9_puts_ok : zYok (YX9_puts) := zYok_of fX9_ok znil znil

theorem mX9_puts : zMet (UM) yX9_puts cX9_puts 4 (none) rX9_puts (sX9_puts) := by
  refine zmet (Y := YX9_puts) rfl (by decide +kernel) ?_
  intro av F ok ex h
  unfold sX9_puts at h
  split at h
  · rename_i x y v
    refine zgo_ok (YX9_puts_ok) zno kX9_puts (List.all_eq_true.mp kX9_puts_ok) 0 _ _ _ _ _ ?_
    obtain ⟨k, w, rfl, rfl, hk, hw, h⟩ := h
    refine Exists.intro (zix (ix_of k w) (by omega) (by decide)) ?_
    show ok none (zup F 1 (53 + 9 * nI k + nI w).toNatClampNeg v)
    rw [zicl (ix_of k w) (by omega)]
    exact h
  · exact h.elim

def kX9_lockOf : List zI := [
  (0, 1, .aload_n 0, [], 0),
  (1, 1, .iload_n 1, [], 0),
  (2, 1, .iconst 4, [], 4),
  (3, 3, .invokevirtual 75, [], 0),
  (6, 3, .ifCond .ge 7, [13], 0),
  (9, 1, .iconst (-1), [], (-1)),
  (10, 3, .goto 30, [40], 0),
  (13, 1, .aload_n 0, [], 0),
  (14, 1, .iload_n 1, [], 0),
  (15, 1, .iconst 3, [], 3),
  (16, 3, .invokevirtual 75, [], 0),
  (19, 1, .iconst 1, [], 1),
  (20, 3, .if_icmp .ne 14, [34], 0),
  (23, 1, .aload_n 0, [], 0),
  (24, 1, .iload_n 1, [], 0),
  (25, 1, .iconst 4, [], 4),
  (26, 3, .invokevirtual 75, [], 0),
  (29, 1, .iconst 1, [], 1),
  (30, 1, .isub, [], 0),
  (31, 3, .goto 9, [40], 0),
  (34, 1, .aload_n 0, [], 0),
  (35, 1, .iload_n 1, [], 0),
  (36, 1, .iconst 4, [], 4),
  (37, 3, .invokevirtual 75, [], 0),
  (40, 1, .ireturn, [], 0)]
theorem kX9_lockOf_ok : kX9_lockOf.all (zck cX9_lockOf) = true := by decide +kernel

def rX9_lockOf : Room := { frames := 1, cells := 0, slots := 0, locals := 22 }
abbrev YX9_lockOf : zM := (RX9, cX9_lockOf, 2, some .int, rX9_lockOf, UM, zlk fX9, zcs [(75, 3, 0, 0, zvs (UM) 9 (sX9_of))] [])
theorem YX9_lockOf_ok : zYok (YX9_lockOf) := zYok_of fX9_ok (zall (zcal_mono (zcalV (Y := YX9_lockOf) (y := yX9_of) (cc := cX9_of) (nL := 3) (ret := some .int) (rm := rX9_of) (mX9_of) 75 2 9 (T := TX9) rfl wX9_75 ⟨by decide +kernel, by decide +kernel, by decide +kernel⟩ (by decide) ⟨Nat.le_of_ble_eq_true rfl, Nat.le_of_ble_eq_true rfl⟩) (fun _ _ _ _ h => zvs_P h)) znil) znil

theorem mX9_lockOf : zMet (UM) yX9_lockOf cX9_lockOf 2 (some .int) rX9_lockOf (sX9_lockOf) := by
  refine zmet (Y := YX9_lockOf) rfl (by decide +kernel) ?_
  intro av F ok ex h
  unfold sX9_lockOf at h
  split at h
  · rename_i x
    refine zgo_ok (YX9_lockOf_ok) zno kX9_lockOf (List.all_eq_true.mp kX9_lockOf_ok) 0 _ _ _ _ _ ?_
    obtain ⟨k, rfl, hk, h⟩ := h
    unfold mLk at h
    refine ⟨k, 4, rfl, rfl, hk, by decide, ?_⟩
    refine And.intro (fun h1 => ?_) (fun h1 => ?_)
    · rw [if_neg (Int32.not_lt.mpr h1)] at h
      refine ⟨k, 3, rfl, rfl, hk, by decide, ?_⟩
      refine And.intro (fun h2 => ?_) (fun h2 => ?_)
      · rw [if_neg h2] at h
        refine ⟨k, 4, rfl, rfl, hk, by decide, ?_⟩
        exact h
      · rw [if_pos h2] at h
        refine ⟨k, 4, rfl, rfl, hk, by decide, ?_⟩
        exact h
    · rw [if_pos (Int32.not_le.mp h1)] at h
      exact h
  · exact h.elim

def kX9_waited : List zI := [
  (0, 1, .aload_n 0, [], 0),
  (1, 1, .iload_n 1, [], 0),
  (2, 1, .iconst 4, [], 4),
  (3, 3, .invokevirtual 75, [], 0),
  (6, 3, .ifCond .ge 7, [13], 0),
  (9, 1, .iconst 0, [], 0),
  (10, 3, .goto 16, [26], 0),
  (13, 1, .aload_n 0, [], 0),
  (14, 3, .getfield 9, [], 0),
  (17, 1, .iconst 0, [], 0),
  (18, 1, .iaload, [], 0),
  (19, 1, .aload_n 0, [], 0),
  (20, 1, .iload_n 1, [], 0),
  (21, 1, .iconst 5, [], 5),
  (22, 3, .invokevirtual 75, [], 0),
  (25, 1, .isub, [], 0),
  (26, 1, .ireturn, [], 0)]
theorem kX9_waited_ok : kX9_waited.all (zck cX9_waited) = true := by decide +kernel

def rX9_waited : Room := { frames := 1, cells := 0, slots := 0, locals := 22 }
abbrev YX9_waited : zM := (RX9, cX9_waited, 2, some .int, rX9_waited, UM, zlk fX9, zcs [(75, 3, 0, 0, zvs (UM) 9 (sX9_of))] [])
theorem YX9_waited_ok : zYok (YX9_waited) := zYok_of fX9_ok (zall (zcal_mono (zcalV (Y := YX9_waited) (y := yX9_of) (cc := cX9_of) (nL := 3) (ret := some .int) (rm := rX9_of) (mX9_of) 75 2 9 (T := TX9) rfl wX9_75 ⟨by decide +kernel, by decide +kernel, by decide +kernel⟩ (by decide) ⟨Nat.le_of_ble_eq_true rfl, Nat.le_of_ble_eq_true rfl⟩) (fun _ _ _ _ h => zvs_P h)) znil) znil

theorem mX9_waited : zMet (UM) yX9_waited cX9_waited 2 (some .int) rX9_waited (sX9_waited) := by
  refine zmet (Y := YX9_waited) rfl (by decide +kernel) ?_
  intro av F ok ex h
  unfold sX9_waited at h
  split at h
  · rename_i x
    refine zgo_ok (YX9_waited_ok) zno kX9_waited (List.all_eq_true.mp kX9_waited_ok) 0 _ _ _ _ _ ?_
    obtain ⟨k, rfl, hk, h⟩ := h
    unfold mWd at h
    refine ⟨k, 4, rfl, rfl, hk, by decide, ?_⟩
    refine And.intro (fun h1 => ?_) (fun h1 => ?_)
    · rw [if_neg (Int32.not_lt.mpr h1)] at h
      refine Exists.intro (zix (k := 0) rfl (by decide) (by decide)) ?_
      refine ⟨k, 5, rfl, rfl, hk, by decide, ?_⟩
      exact h
    · rw [if_pos (Int32.not_le.mp h1)] at h
      exact h
  · exact h.elim

def kX9_next : List zI := [
  (0, 1, .aload_n 0, [], 0),
  (1, 1, .iload_n 1, [], 0),
  (2, 1, .iconst 3, [], 3),
  (3, 3, .invokevirtual 75, [], 0),
  (6, 1, .iconst 1, [], 1),
  (7, 3, .if_icmp .ne 14, [21], 0),
  (10, 1, .aload_n 0, [], 0),
  (11, 1, .iload_n 1, [], 0),
  (12, 1, .iconst 4, [], 4),
  (13, 3, .invokevirtual 75, [], 0),
  (16, 1, .iconst 1, [], 1),
  (17, 1, .isub, [], 0),
  (18, 3, .goto 11, [29], 0),
  (21, 1, .aload_n 0, [], 0),
  (22, 1, .iload_n 1, [], 0),
  (23, 1, .iconst 4, [], 4),
  (24, 3, .invokevirtual 75, [], 0),
  (27, 1, .iconst 1, [], 1),
  (28, 1, .iadd, [], 0),
  (29, 1, .ireturn, [], 0)]
theorem kX9_next_ok : kX9_next.all (zck cX9_next) = true := by decide +kernel

def rX9_next : Room := { frames := 1, cells := 0, slots := 0, locals := 22 }
abbrev YX9_next : zM := (RX9, cX9_next, 2, some .int, rX9_next, UM, zlk fX9, zcs [(75, 3, 0, 0, zvs (UM) 9 (sX9_of))] [])
theorem YX9_next_ok : zYok (YX9_next) := zYok_of fX9_ok (zall (zcal_mono (zcalV (Y := YX9_next) (y := yX9_of) (cc := cX9_of) (nL := 3) (ret := some .int) (rm := rX9_of) (mX9_of) 75 2 9 (T := TX9) rfl wX9_75 ⟨by decide +kernel, by decide +kernel, by decide +kernel⟩ (by decide) ⟨Nat.le_of_ble_eq_true rfl, Nat.le_of_ble_eq_true rfl⟩) (fun _ _ _ _ h => zvs_P h)) znil) znil

theorem mX9_next : zMet (UM) yX9_next cX9_next 2 (some .int) rX9_next (sX9_next) := by
  refine zmet (Y := YX9_next) rfl (by decide +kernel) ?_
  intro av F ok ex h
  unfold sX9_next at h
  split at h
  · rename_i x
    refine zgo_ok (YX9_next_ok) zno kX9_next (List.all_eq_true.mp kX9_next_ok) 0 _ _ _ _ _ ?_
    obtain ⟨k, rfl, hk, h⟩ := h
    unfold mNx at h
    refine ⟨k, 3, rfl, rfl, hk, by decide, ?_⟩
    refine And.intro (fun h2 => ?_) (fun h2 => ?_)
    · rw [if_neg h2] at h
      refine ⟨k, 4, rfl, rfl, hk, by decide, ?_⟩
      exact h
    · rw [if_pos h2] at h
      refine ⟨k, 4, rfl, rfl, hk, by decide, ?_⟩
      exact h
  · exact h.elim

def kX9_here : List zI := [
  (0, 1, .aload_n 0, [], 0),
  (1, 3, .getfield 120, [], 0),
  (4, 1, .aload_n 0, [], 0),
  (5, 3, .getfield 117, [], 0),
  (8, 3, .if_icmp .ge 15, [23], 0),
  (11, 1, .aload_n 0, [], 0),
  (12, 3, .getfield 22, [], 0),
  (15, 1, .aload_n 0, [], 0),
  (16, 3, .getfield 120, [], 0),
  (19, 1, .iaload, [], 0),
  (20, 3, .goto 4, [24], 0),
  (23, 1, .iconst 0, [], 0),
  (24, 1, .ireturn, [], 0)]
theorem kX9_here_ok : kX9_here.all (zck cX9_here) = true := by decide +kernel

def rX9_here : Room := { frames := 0, cells := 0, slots := 0, locals := 0 }
abbrev YX9_here : zM := (RX9, cX9_here, 1, some .int, rX9_here, UM, zlk fX9, zcs [] [])
theorem YX9_here_ok : zYok (YX9_here) := zYok_of fX9_ok znil znil

theorem mX9_here : zMet (UM) yX9_here cX9_here 1 (some .int) rX9_here (sX9_here) := by
  refine zmet (Y := YX9_here) rfl (by decide +kernel) ?_
  intro av F ok ex h
  unfold sX9_here at h
  split at h
  · refine zgo_ok (YX9_here_ok) zno kX9_here (List.all_eq_true.mp kX9_here_ok) 0 _ _ _ _ _ ?_
    obtain ⟨h0, h⟩ := h
    unfold mHe at h
    refine And.intro (fun h1 => ?_) (fun h1 => ?_)
    · rw [if_neg (Int32.not_lt.mpr h1)] at h
      exact h
    · rw [if_pos (Int32.not_le.mp h1)] at h
      exact Exists.intro (h0 (Int32.not_le.mp h1)) h
  · exact h.elim

def kX9_takes : List zI := [
  (0, 1, .aload_n 0, [], 0),
  (1, 3, .getfield 120, [], 0),
  (4, 1, .aload_n 0, [], 0),
  (5, 3, .getfield 117, [], 0),
  (8, 3, .if_icmp .eq 11, [19], 0),
  (11, 1, .aload_n 0, [], 0),
  (12, 3, .invokevirtual 123, [], 0),
  (15, 1, .iload_n 1, [], 0),
  (16, 3, .if_icmp .eq 5, [21], 0),
  (19, 1, .iconst 0, [], 0),
  (20, 1, .ireturn, [], 0),
  (21, 1, .aload_n 0, [], 0),
  (22, 1, .dup, [], 0),
  (23, 3, .getfield 120, [], 0),
  (26, 1, .iconst 1, [], 1),
  (27, 1, .iadd, [], 0),
  (28, 3, .putfield 120, [], 0),
  (31, 1, .iconst 1, [], 1),
  (32, 1, .ireturn, [], 0)]
theorem kX9_takes_ok : kX9_takes.all (zck cX9_takes) = true := by decide +kernel

def rX9_takes : Room := { frames := 1, cells := 0, slots := 0, locals := 20 }
abbrev YX9_takes : zM := (RX9, cX9_takes, 2, some .boolean, rX9_takes, UM, zlk fX9, zcs [(123, 1, 0, 0, zvs (UM) 9 (sX9_here))] [])
theorem YX9_takes_ok : zYok (YX9_takes) := zYok_of fX9_ok (zall (zcal_mono (zcalV (Y := YX9_takes) (y := yX9_here) (cc := cX9_here) (nL := 1) (ret := some .int) (rm := rX9_here) (mX9_here) 123 0 9 (T := TX9) rfl wX9_123 ⟨by decide +kernel, by decide +kernel, by decide +kernel⟩ (by decide) ⟨Nat.le_of_ble_eq_true rfl, Nat.le_of_ble_eq_true rfl⟩) (fun _ _ _ _ h => zvs_P h)) znil) znil

theorem mX9_takes : zMet (UM) yX9_takes cX9_takes 2 (some .boolean) rX9_takes (sX9_takes) := by
  refine zmet (Y := YX9_takes) rfl (by decide +kernel) ?_
  intro av F ok ex h
  unfold sX9_takes at h
  split at h
  · rename_i c
    refine zgo_ok (YX9_takes_ok) zno kX9_takes (List.all_eq_true.mp kX9_takes_ok) 0 _ _ _ _ _ ?_
    obtain ⟨h0, h3, h4⟩ := h
    refine And.intro (fun h1 => ?_) (fun h1 => ?_)
    · exact Exists.intro (Or.inl rfl) (h4 (fun h5 => h5.1 h1))
    · refine ⟨h0, ?_⟩
      refine And.intro (fun h2 => ?_) (fun h2 => ?_)
      · exact Exists.intro (Or.inr rfl) (h3 ⟨h1, h2⟩)
      · exact Exists.intro (Or.inl rfl) (h4 (fun h5 => h2 h5.2))
  · exact h.elim

def kX9_held : List zI := [
  (0, 1, .aload_n 0, [], 0),
  (1, 1, .iload_n 1, [], 0),
  (2, 1, .iconst 3, [], 3),
  (3, 3, .invokevirtual 79, [], 0),
  (6, 1, .aload_n 0, [], 0),
  (7, 1, .iload_n 1, [], 0),
  (8, 1, .iconst 1, [], 1),
  (9, 3, .invokevirtual 79, [], 0),
  (12, 1, .imul, [], 0),
  (13, 1, .aload_n 0, [], 0),
  (14, 1, .iload_n 1, [], 0),
  (15, 3, .invokevirtual 82, [], 0),
  (18, 1, .aload_n 0, [], 0),
  (19, 1, .iload_n 1, [], 0),
  (20, 1, .iconst 4, [], 4),
  (21, 3, .invokevirtual 79, [], 0),
  (24, 3, .invokestatic 85, [], 0),
  (27, 1, .imul, [], 0),
  (28, 1, .iadd, [], 0),
  (29, 1, .ireturn, [], 0)]
theorem kX9_held_ok : kX9_held.all (zck cX9_held) = true := by decide +kernel

def rX9_held : Room := { frames := 2, cells := 0, slots := 0, locals := 43 }
abbrev YX9_held : zM := (RX9, cX9_held, 2, some .int, rX9_held, UM, zlk fX9, zcs [(79, 3, 0, 0, zvs (UM) 9 (sX9_lockPart)), (82, 2, 0, 0, zvs (UM) 9 (sX9_quarter))] [(85, 1, 0, 0, sJ6_bitCount_0f7a4)])
theorem YX9_held_ok : zYok (YX9_held) := zYok_of fX9_ok (zall (zcal_mono (zcalV (Y := YX9_held) (y := yX9_lockPart) (cc := cX9_lockPart) (nL := 3) (ret := some .int) (rm := rX9_lockPart) (mX9_lockPart) 79 2 9 (T := TX9) rfl wX9_79 ⟨by decide +kernel, by decide +kernel, by decide +kernel⟩ (by decide) ⟨Nat.le_of_ble_eq_true rfl, Nat.le_of_ble_eq_true rfl⟩) (fun _ _ _ _ h => zvs_P h)) (zall (zcal_mono (zcalV (Y := YX9_held) (y := yX9_quarter) (cc := cX9_quarter) (nL := 2) (ret := some .int) (rm := rX9_quarter) (mX9_quarter) 82 1 9 (T := TX9) rfl wX9_82 ⟨by decide +kernel, by decide +kernel, by decide +kernel⟩ (by decide) ⟨Nat.le_of_ble_eq_true rfl, Nat.le_of_ble_eq_true rfl⟩) (fun _ _ _ _ h => zvs_P h)) znil)) (zall (zcalS (Y := YX9_held) (y := yJ6_bitCount_0f7a4) (cc := cJ6_bitCount_0f7a4) (nL := 1) (ret := some .int) (rm := rJ6_bitCount_0f7a4) (mJ6_bitCount_0f7a4) 85 1 wX9_85 ⟨by decide +kernel, by decide +kernel, by decide +kernel⟩ (by decide) ⟨Nat.le_of_ble_eq_true rfl, Nat.le_of_ble_eq_true rfl⟩) znil)

theorem mX9_held : zMet (UM) yX9_held cX9_held 2 (some .int) rX9_held (sX9_held) := by
  refine zmet (Y := YX9_held) rfl (by decide +kernel) ?_
  intro av F ok ex h
  unfold sX9_held at h
  split at h
  · rename_i x
    refine zgo_ok (YX9_held_ok) zno kX9_held (List.all_eq_true.mp kX9_held_ok) 0 _ _ _ _ _ ?_
    obtain ⟨k, rfl, hk, ⟨b, hb, h5⟩, h⟩ := h
    refine ⟨k, 3, rfl, rfl, hk, by decide, ?_⟩
    refine ⟨k, 1, rfl, rfl, hk, by decide, ?_⟩
    refine ⟨k, rfl, hk, ?_⟩
    refine ⟨k, 4, rfl, rfl, hk, by decide, ?_⟩
    refine ⟨b, hb, h5, ?_⟩
    have h6 : mBc (mLP F k 4) = nI (mBit b) := by
      unfold mBc
      rw [h5, nI_clamp (by omega)]
    unfold mHd at h
    rw [h6] at h
    exact h
  · exact h.elim

end ZM0
