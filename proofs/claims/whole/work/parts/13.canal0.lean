/-! the world of one canal; whole numbers of the JDK; loops that count -/
section ZC0
def lC : List zS := [(0, 1, [some 1, some 8, some 25, some 44, none, none, none, none, none, none, none]),
  (0, 6, [some 2, some 4, some 6, none]),
  (0, 7, [some 3]),
  (1, 5, []),
  (0, 7, [some 5]),
  (1, 5, []),
  (0, 7, [some 7]),
  (1, 5, []),
  (0, 5, [some 9, some 11, some 13, some 15, some 17, some 19, some 21, some 23, none, none]),
  (0, 7, [some 10]),
  (1, 4, []),
  (0, 7, [some 12]),
  (1, 4, []),
  (0, 7, [some 14]),
  (1, 4, []),
  (0, 7, [some 16]),
  (1, 4, []),
  (0, 7, [some 18]),
  (1, 4, []),
  (0, 7, [some 20]),
  (1, 4, []),
  (0, 7, [some 22]),
  (1, 4, []),
  (0, 7, [some 24]),
  (1, 4, []),
  (0, 3, [some 26, some 28, some 30, some 32, some 34, some 36, some 38, some 40, some 42, none]),
  (0, 7, [some 27]),
  (1, 16, []),
  (0, 7, [some 29]),
  (1, 16, []),
  (0, 7, [some 31]),
  (1, 16, []),
  (0, 7, [some 33]),
  (1, 16, []),
  (0, 7, [some 35]),
  (1, 16, []),
  (0, 7, [some 37]),
  (1, 16, []),
  (0, 7, [some 39]),
  (1, 16, []),
  (0, 7, [some 41]),
  (1, 16, []),
  (0, 7, [some 43]),
  (1, 16, []),
  (0, 4, [none, none, none, none])]
def UC : zU := (45, fun k => (znth lC k).getD (1, 0, []))
theorem UC_small : zsmall UC := by
  have h : ∀ k, k < 45 → (UC.2 k).2.1 < 2 ^ 31 := by decide +kernel
  exact h
theorem zcnt_lt {c : Int32} {k : Nat} (h : k < c.toNatClampNeg) : ¬ c ≤ nI k := by
  have h2 : c.toNatClampNeg = c.toInt.toNat := rfl
  have h3 := Int32.toInt_lt c
  intro h1
  have h4 := Int32.le_iff_toInt_le.mp h1
  rw [nI_toInt (by omega)] at h4
  omega
theorem zcnt_ge (c : Int32) : c ≤ nI c.toNatClampNeg := by
  have h2 : c.toNatClampNeg = c.toInt.toNat := rfl
  have h3 := Int32.toInt_lt c
  rw [Int32.le_iff_toInt_le, nI_toInt (by omega)]
  omega
theorem zcnt_bd (c : Int32) : c.toNatClampNeg < 2 ^ 31 := by
  have h2 : c.toNatClampNeg = c.toInt.toNat := rfl
  have h3 := Int32.toInt_lt c
  omega
theorem zwr_ne (n : Nat) (F : zF) {j k : Nat} (i v : Int32) (h : k ≠ j) : zwr n F j i v k = F k := by
  unfold zwr
  split
  · rfl
  · split
    · exact zup_ne F _ _ h
    · rfl
theorem zup_at (F : zF) (j i : Nat) (v : Int32) : zup F j i v j i = v := by simp [zup]
theorem zup_an (F : zF) (j : Nat) {i b : Nat} (v : Int32) (h : b ≠ i) : zup F j i v j b = F j b := by simp [zup, h]
/-- an answer of yes or no -/
def zbo (c : Prop) (F : zF) (ok : zO) : Prop := (c → ok (some (.int 1)) F) ∧ (¬ c → ok (some (.int 0)) F)
def imax (x y : Int32) : Int32 := if x < y then y else x
def imin (x y : Int32) : Int32 := if y < x then y else x
def sJ9_max_7cf53 : zSp := fun as F ok _ => match as with
  | [.int x, .int y] => ok (some (.int (imax x y))) F
  | _ => False
def sJ9_min_7cf53 : zSp := fun as F ok _ => match as with
  | [.int x, .int y] => ok (some (.int (imin x y))) F
  | _ => False

def kJ9_max_7cf53 : List zI := [
  (0, 1, .iload_n 0, [], 0),
  (1, 1, .iload_n 1, [], 0),
  (2, 3, .if_icmp .lt 7, [9], 0),
  (5, 1, .iload_n 0, [], 0),
  (6, 3, .goto 4, [10], 0),
  (9, 1, .iload_n 1, [], 0),
  (10, 1, .ireturn, [], 0)]
theorem kJ9_max_7cf53_ok : kJ9_max_7cf53.all (zck cJ9_max_7cf53) = true := by decide +kernel

def rJ9_max_7cf53 : Room := { frames := 0, cells := 0, slots := 0, locals := 0 }
abbrev YJ9_max_7cf53 (U : zU) : zM := (RJ9, cJ9_max_7cf53, 2, some .int, rJ9_max_7cf53, U, zlk ([] : List (Nat × Nat × Nat × Nat)), zcs [] [])
theorem YJ9_max_7cf53_ok (U : zU) : zYok (YJ9_max_7cf53 U) := zYok_of rfl znil znil

theorem mJ9_max_7cf53 (U : zU) : zMet (U) yJ9_max_7cf53 cJ9_max_7cf53 2 (some .int) rJ9_max_7cf53 (sJ9_max_7cf53) := by
  refine zmet (Y := YJ9_max_7cf53 U) rfl (by decide +kernel) ?_
  intro av F ok ex h
  unfold sJ9_max_7cf53 at h
  split at h
  · rename_i x y
    refine zgo_ok (YJ9_max_7cf53_ok U) zno kJ9_max_7cf53 (List.all_eq_true.mp kJ9_max_7cf53_ok) 0 _ _ _ _ _ ?_
    repeat' (first
      | refine And.intro (fun h0 => absurd h0 (by decide)) (fun _ => ?_)
      | refine And.intro (fun _ => ?_) (fun h0 => absurd (by decide) h0)
      | refine And.intro (fun _ => ?_) (fun _ => ?_)
      | refine And.intro (fun _ => ?_) ?_
      | refine Exists.intro ?_ ?_)
    · rename_i h1
      exact zleaf ok h (by simp [imax, h1]) rfl
    · rename_i h1
      exact zleaf ok h (by simp [imax, h1]) rfl
  · exact h.elim

def kJ9_min_7cf53 : List zI := [
  (0, 1, .iload_n 0, [], 0),
  (1, 1, .iload_n 1, [], 0),
  (2, 3, .if_icmp .gt 7, [9], 0),
  (5, 1, .iload_n 0, [], 0),
  (6, 3, .goto 4, [10], 0),
  (9, 1, .iload_n 1, [], 0),
  (10, 1, .ireturn, [], 0)]
theorem kJ9_min_7cf53_ok : kJ9_min_7cf53.all (zck cJ9_min_7cf53) = true := by decide +kernel

def rJ9_min_7cf53 : Room := { frames := 0, cells := 0, slots := 0, locals := 0 }
abbrev YJ9_min_7cf53 (U : zU) : zM := (RJ9, cJ9_min_7cf53, 2, some .int, rJ9_min_7cf53, U, zlk ([] : List (Nat × Nat × Nat × Nat)), zcs [] [])
theorem YJ9_min_7cf53_ok (U : zU) : zYok (YJ9_min_7cf53 U) := zYok_of rfl znil znil

theorem mJ9_min_7cf53 (U : zU) : zMet (U) yJ9_min_7cf53 cJ9_min_7cf53 2 (some .int) rJ9_min_7cf53 (sJ9_min_7cf53) := by
  refine zmet (Y := YJ9_min_7cf53 U) rfl (by decide +kernel) ?_
  intro av F ok ex h
  unfold sJ9_min_7cf53 at h
  split at h
  · rename_i x y
    refine zgo_ok (YJ9_min_7cf53_ok U) zno kJ9_min_7cf53 (List.all_eq_true.mp kJ9_min_7cf53_ok) 0 _ _ _ _ _ ?_
    repeat' (first
      | refine And.intro (fun h0 => absurd h0 (by decide)) (fun _ => ?_)
      | refine And.intro (fun _ => ?_) (fun h0 => absurd (by decide) h0)
      | refine And.intro (fun _ => ?_) (fun _ => ?_)
      | refine And.intro (fun _ => ?_) ?_
      | refine Exists.intro ?_ ?_)
    · rename_i h1
      exact zleaf ok h (by simp [imin, h1]) rfl
    · rename_i h1
      exact zleaf ok h (by simp [imin, h1]) rfl
  · exact h.elim

end ZC0
