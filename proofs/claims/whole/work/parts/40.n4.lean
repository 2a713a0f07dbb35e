/-! the reference's untilLeft; many heads -/
section ZN4
set_option maxRecDepth 20000
/-- heads by a list -/
def zih (Y : zM) (ok : zO) (ex : zX) (hs : List Nat) : Nat → Option zJ := fun pc => match hs.any (Nat.beq pc) with
  | true => some (fun ls st kc ks G => zWP Y ok ex pc ls st kc ks G)
  | false => none
theorem zih_ok {Y : zM} {ok : zO} {ex : zX} {hs : List Nat} : ∀ t I, zih Y ok ex hs t = some I → ∀ ls st kc ks F, I ls st kc ks F → zWP Y ok ex t ls st kc ks F := by
  intro t I h
  unfold zih at h
  split at h
  · cases h
    intro ls st kc ks F h2
    exact h2
  · cases h
def sX9_untilLeft : zSp := fun as F ok _ => match as with
  | [.ref 0, .int s, .int t] => zcn (0 ≤ s ∧ s ≤ F 1 2 - 1) (zcn (1 ≤ t ∧ t ≤ 40) (∃ i, s = nI i ∧ i < 16 ∧ zcn (mOf F i 4 < 0) (ok (some (.int 0)) (zup (mT F) 0 0 3)) (∃ S : Nat → zF, ∃ N : Nat, S 0 = mCp (mT F) 4 1 0 197 ∧ N ≤ t.toNatClampNeg ∧ (∀ k, k < N → (∃ n m cv, mTp (S k) n m cv ∧ S (k + 1) = mTick (S k) n m cv) ∧ S k 1 0 < 500 ∧ ¬ mOf (S k) i 4 < 0) ∧ (N = t.toNatClampNeg ∨ (500 ≤ S N 1 0 ∨ mOf (S N) i 4 < 0)) ∧
      zcn (mOf (S N) i 4 < 0) (ok (some (.int (nI N))) (mCp (S N) 1 4 0 197)) (ok (some (.int 0)) (zup (mCp (S N) 1 4 0 197) 0 0 4)))) (ok (some (.int 0)) (zup (mT F) 0 0 2))) (ok (some (.int 0)) (zup (mT F) 0 0 1))
  | _ => False

def kX9_untilLeft : List zI := [
  (0, 1, .aload_n 0, [], 0),
  (1, 1, .iconst 0, [], 0),
  (2, 3, .putfield 42, [], 0),
  (5, 1, .aload_n 0, [], 0),
  (6, 1, .iload_n 1, [], 0),
  (7, 3, .invokevirtual 133, [], 0),
  (10, 3, .ifCond .ne 9, [19], 0),
  (13, 1, .aload_n 0, [], 0),
  (14, 1, .iconst 1, [], 1),
  (15, 3, .invokevirtual 48, [], 0),
  (18, 1, .ireturn, [], 0),
  (19, 1, .iload_n 2, [], 0),
  (20, 1, .iconst 1, [], 1),
  (21, 2, .bipush 40, [], 40),
  (23, 3, .invokestatic 55, [], 0),
  (26, 3, .ifCond .ne 9, [35], 0),
  (29, 1, .aload_n 0, [], 0),
  (30, 1, .iconst 2, [], 2),
  (31, 3, .invokevirtual 48, [], 0),
  (34, 1, .ireturn, [], 0),
  (35, 1, .aload_n 0, [], 0),
  (36, 1, .iload_n 1, [], 0),
  (37, 1, .iconst 4, [], 4),
  (38, 3, .invokevirtual 75, [], 0),
  (41, 3, .ifCond .ge 9, [50], 0),
  (44, 1, .aload_n 0, [], 0),
  (45, 1, .iconst 3, [], 3),
  (46, 3, .invokevirtual 48, [], 0),
  (49, 1, .ireturn, [], 0),
  (50, 1, .iconst 0, [], 0),
  (51, 1, .istore_n 3, [], 0),
  (52, 1, .iload_n 3, [], 0),
  (53, 3, .sipush 197, [], 197),
  (56, 3, .if_icmp .ge 21, [77], 0),
  (59, 1, .aload_n 0, [], 0),
  (60, 3, .getfield 19, [], 0),
  (63, 1, .iload_n 3, [], 0),
  (64, 1, .aload_n 0, [], 0),
  (65, 3, .getfield 9, [], 0),
  (68, 1, .iload_n 3, [], 0),
  (69, 1, .iaload, [], 0),
  (70, 1, .iastore, [], 0),
  (71, 3, .iinc 3 1, [], 1),
  (74, 3, .goto (-22), [52], 0),
  (77, 1, .iconst 0, [], 0),
  (78, 1, .istore_n 3, [], 0),
  (79, 1, .iload_n 3, [], 0),
  (80, 1, .iload_n 2, [], 0),
  (81, 3, .if_icmp .ge 34, [115], 0),
  (84, 1, .aload_n 0, [], 0),
  (85, 3, .getfield 9, [], 0),
  (88, 1, .iconst 0, [], 0),
  (89, 1, .iaload, [], 0),
  (90, 3, .sipush 500, [], 500),
  (93, 3, .if_icmp .ge 22, [115], 0),
  (96, 1, .aload_n 0, [], 0),
  (97, 1, .iload_n 1, [], 0),
  (98, 1, .iconst 4, [], 4),
  (99, 3, .invokevirtual 75, [], 0),
  (102, 3, .ifCond .lt 13, [115], 0),
  (105, 1, .aload_n 0, [], 0),
  (106, 3, .invokevirtual 196, [], 0),
  (109, 3, .iinc 3 1, [], 1),
  (112, 3, .goto (-33), [79], 0),
  (115, 1, .aload_n 0, [], 0),
  (116, 1, .iload_n 1, [], 0),
  (117, 1, .iconst 4, [], 4),
  (118, 3, .invokevirtual 75, [], 0),
  (121, 3, .ifCond .ge 7, [128], 0),
  (124, 1, .iconst 1, [], 1),
  (125, 3, .goto 4, [129], 0),
  (128, 1, .iconst 0, [], 0),
  (129, 2, .istore 4, [], 0),
  (131, 1, .iconst 0, [], 0),
  (132, 2, .istore 5, [], 0),
  (134, 2, .iload 5, [], 0),
  (136, 3, .sipush 197, [], 197),
  (139, 3, .if_icmp .ge 23, [162], 0),
  (142, 1, .aload_n 0, [], 0),
  (143, 3, .getfield 9, [], 0),
  (146, 2, .iload 5, [], 0),
  (148, 1, .aload_n 0, [], 0),
  (149, 3, .getfield 19, [], 0),
  (152, 2, .iload 5, [], 0),
  (154, 1, .iaload, [], 0),
  (155, 1, .iastore, [], 0),
  (156, 3, .iinc 5 1, [], 1),
  (159, 3, .goto (-25), [134], 0),
  (162, 2, .iload 4, [], 0),
  (164, 3, .ifCond .eq 7, [171], 0),
  (167, 1, .iload_n 3, [], 0),
  (168, 3, .goto 8, [176], 0),
  (171, 1, .aload_n 0, [], 0),
  (172, 1, .iconst 4, [], 4),
  (173, 3, .invokevirtual 48, [], 0),
  (176, 1, .ireturn, [], 0)]
theorem kX9_untilLeft_ok : kX9_untilLeft.all (zck cX9_untilLeft) = true := by decide +kernel

def rX9_untilLeft : Room := { frames := 6, cells := 0, slots := 0, locals := 144 }
abbrev YX9_untilLeft : zM := (RX9, cX9_untilLeft, 6, some .int, rX9_untilLeft, UM, zlk fX9, zcs [(133, 2, 0, 0, zvs (UM) 9 (sX9_isShip)), (48, 2, 0, 0, zvs (UM) 9 (sX9_raises)), (75, 3, 0, 0, zvs (UM) 9 (sX9_of)), (196, 1, 0, 0, zvs (UM) 9 (sX9_ticks))] [(55, 3, 0, 0, sX9_in)])
theorem YX9_untilLeft_ok : zYok (YX9_untilLeft) := zYok_of fX9_ok (zall (zcal_mono (zcalV (Y := YX9_untilLeft) (y := yX9_isShip) (cc := cX9_isShip) (nL := 2) (ret := some .boolean) (rm := rX9_isShip) (mX9_isShip) 133 1 9 (T := TX9) rfl wX9_133 ⟨by decide +kernel, by decide +kernel, by decide +kernel⟩ (by decide) ⟨Nat.le_of_ble_eq_true rfl, Nat.le_of_ble_eq_true rfl⟩) (fun _ _ _ _ h => zvs_P h)) (zall (zcal_mono (zcalV (Y := YX9_untilLeft) (y := yX9_raises) (cc := cX9_raises) (nL := 2) (ret := some .int) (rm := rX9_raises) (mX9_raises) 48 1 9 (T := TX9) rfl wX9_48 ⟨by decide +kernel, by decide +kernel, by decide +kernel⟩ (by decide) ⟨Nat.le_of_ble_eq_true rfl, Nat.le_of_ble_eq_true rfl⟩) (fun _ _ _ _ h => zvs_P h)) (zall (zcal_mono (zcalV (Y := YX9_untilLeft) (y := yX9_of) (cc := cX9_of) (nL := 3) (ret := some .int) (rm := rX9_of) (mX9_of) 75 2 9 (T := TX9) rfl wX9_75 ⟨by decide +kernel, by decide +kernel, by decide +kernel⟩ (by decide) ⟨Nat.le_of_ble_eq_true rfl, Nat.le_of_ble_eq_true rfl⟩) (fun _ _ _ _ h => zvs_P h)) (zall (zcal_mono (zcalV (Y := YX9_untilLeft) (y := yX9_ticks) (cc := cX9_ticks) (nL := 4) (ret := none) (rm := rX9_ticks) (mX9_ticks) 196 0 9 (T := TX9) rfl wX9_196 ⟨by decide +kernel, by decide +kernel, by decide +kernel⟩ (by decide) ⟨Nat.le_of_ble_eq_true rfl, Nat.le_of_ble_eq_true rfl⟩) (fun _ _ _ _ h => zvs_P h)) znil)))) (zall (zcalS (Y := YX9_untilLeft) (y := yX9_in) (cc := cX9_in) (nL := 3) (ret := some .boolean) (rm := rX9_in) (mX9_in) 55 3 wX9_55 ⟨by decide +kernel, by decide +kernel, by decide +kernel⟩ (by decide) ⟨Nat.le_of_ble_eq_true rfl, Nat.le_of_ble_eq_true rfl⟩) znil)

theorem lX9_until3 (ok : zO) (ex : zX) (G : zF) (a t z lv : Int32) (h : zcn (¬ lv = 0) (ok (some (.int z)) (mCp G 1 4 0 197)) (ok (some (.int 0)) (zup (mCp G 1 4 0 197) 0 0 4))) : ∀ (d k : Nat), k + d = 197 → zWP YX9_untilLeft ok ex 134 [some (.ref 0), some (.int a), some (.int t), some (.int z), some (.int lv), some (.int (nI k))] [] 0 0 (mCp G 1 4 0 k) := by
  intro d
  induction d with
  | zero =>
    intro k hk
    have hk : k = 197 := hk
    subst hk
    refine zat_ok YX9_untilLeft_ok (inv := zih YX9_untilLeft ok ex [52, 79, 134]) zih_ok kX9_untilLeft (List.all_eq_true.mp kX9_untilLeft_ok) 134 _ _ _ _ _ ?_
    refine And.intro (fun _ => ?_) (fun g => absurd (by decide) g)
    exact And.intro (fun g => h.2 (fun g2 => g2 g)) (fun g => h.1 g)
  | succ d ih =>
    intro k hk
    have ih := ih (k + 1) (by omega)
    have e1 : mCp G 1 4 0 k 4 (nI k).toNatClampNeg = G 4 (0 + k) := by
      rw [mCp_ne _ _ _ _ _ (by decide), nI_clamp (by omega), Nat.zero_add]
    have e2 : (nI k).toNatClampNeg = k := nI_clamp (by omega)
    rw [← nI_1, ← mCp_s, ← e1] at ih
    refine zat_ok YX9_untilLeft_ok (inv := zih YX9_untilLeft ok ex [52, 79, 134]) zih_ok kX9_untilLeft (List.all_eq_true.mp kX9_untilLeft_ok) 134 _ _ _ _ _ ?_
    refine And.intro (fun g => absurd g (nI_ge (a := k) (b := 197) (by omega) (by decide))) (fun _ => ?_)
    refine Exists.intro (zix (x := nI k) rfl (by omega) (by decide)) ?_
    refine Exists.intro (zix (x := nI k) rfl (by omega) (by decide)) ?_
    show zWP YX9_untilLeft ok ex 134 _ [] 0 0 (zup (mCp G 1 4 0 k) 1 (nI k).toNatClampNeg (mCp G 1 4 0 k 4 (nI k).toNatClampNeg))
    rw [show zup (mCp G 1 4 0 k) 1 (nI k).toNatClampNeg = zup (mCp G 1 4 0 k) 1 k by rw [e2]]
    exact ih

theorem lX9_until2 (ok : zO) (ex : zX) (t : Int32) (i : Nat) (hi : i < 16) (S : Nat → zF) (N : Nat) (hN : N ≤ t.toNatClampNeg) (h1 : ∀ k, k < N → (∃ n m cv, mTp (S k) n m cv ∧ S (k + 1) = mTick (S k) n m cv) ∧ S k 1 0 < 500 ∧ ¬ mOf (S k) i 4 < 0) (h2 : N = t.toNatClampNeg ∨ (500 ≤ S N 1 0 ∨ mOf (S N) i 4 < 0))
    (h : zcn (mOf (S N) i 4 < 0) (ok (some (.int (nI N))) (mCp (S N) 1 4 0 197)) (ok (some (.int 0)) (zup (mCp (S N) 1 4 0 197) 0 0 4))) : ∀ (d k : Nat), k + d = N → zWP YX9_untilLeft ok ex 79 [some (.ref 0), some (.int (nI i)), some (.int t), some (.int (nI k)), none, none] [] 0 0 (S k) := by
  intro d
  induction d with
  | zero =>
    intro k hk
    have hk : k = N := hk
    subst hk
    have fin : ∀ lv : Int32, (¬ lv = 0 ↔ mOf (S k) i 4 < 0) → zWP YX9_untilLeft ok ex 134 [some (.ref 0), some (.int (nI i)), some (.int t), some (.int (nI k)), some (.int lv), some (.int 0)] [] 0 0 (S k) := by
      intro lv hl
      have h5 := lX9_until3 ok ex (S k) (nI i) t (nI k) lv ⟨fun g => h.1 (hl.mp g), fun g => h.2 (fun g2 => g (hl.mpr g2))⟩ 197 0 rfl
      rw [mCp_0] at h5
      exact h5
    refine zat_ok YX9_untilLeft_ok (inv := zih YX9_untilLeft ok ex [52, 79, 134]) zih_ok kX9_untilLeft (List.all_eq_true.mp kX9_untilLeft_ok) 79 _ _ _ _ _ ?_
    have exi : ∀ {A B : Prop}, A → B → A ∧ B := fun a b => ⟨a, b⟩
    refine And.intro (fun _ => ?_) (fun g => ?_)
    · refine ⟨i, 4, rfl, rfl, hi, by decide, ?_⟩
      exact And.intro (fun g => fin 0 ⟨fun q => absurd rfl q, fun q => absurd q (Int32.not_lt.mpr g)⟩) (fun g => fin 1 ⟨fun _ => Int32.not_le.mp g, fun _ => by decide⟩)
    · refine Exists.intro (zix (k := 0) rfl (by decide) (by decide)) ?_
      refine And.intro (fun _ => ?_) (fun g2 => ?_)
      · refine ⟨i, 4, rfl, rfl, hi, by decide, ?_⟩
        exact And.intro (fun g => fin 0 ⟨fun q => absurd rfl q, fun q => absurd q (Int32.not_lt.mpr g)⟩) (fun g => fin 1 ⟨fun _ => Int32.not_le.mp g, fun _ => by decide⟩)
      · refine ⟨i, 4, rfl, rfl, hi, by decide, ?_⟩
        refine And.intro (fun _ => ?_) (fun g3 => ?_)
        · refine ⟨i, 4, rfl, rfl, hi, by decide, ?_⟩
          exact And.intro (fun g => fin 0 ⟨fun q => absurd rfl q, fun q => absurd q (Int32.not_lt.mpr g)⟩) (fun g => fin 1 ⟨fun _ => Int32.not_le.mp g, fun _ => by decide⟩)
        · exfalso
          rcases h2 with h3 | h3 | h3
          · rw [h3] at g
            exact g (zcnt_ge t)
          · exact g2 h3
          · exact g3 h3
  | succ d ih =>
    intro k hk
    obtain ⟨⟨n, m, cv, h3, h4⟩, h5, h6⟩ := h1 k (by omega)
    have ih := ih (k + 1) (by omega)
    rw [← nI_1, h4] at ih
    refine zat_ok YX9_untilLeft_ok (inv := zih YX9_untilLeft ok ex [52, 79, 134]) zih_ok kX9_untilLeft (List.all_eq_true.mp kX9_untilLeft_ok) 79 _ _ _ _ _ ?_
    refine And.intro (fun g => absurd g (zcnt_lt (c := t) (k := k) (by omega))) (fun _ => ?_)
    refine Exists.intro (zix (k := 0) rfl (by decide) (by decide)) ?_
    refine And.intro (fun g => absurd h5 (Int32.not_lt.mpr g)) (fun _ => ?_)
    refine ⟨i, 4, rfl, rfl, hi, by decide, ?_⟩
    refine And.intro (fun g => absurd g h6) (fun _ => ?_)
    exact ⟨n, m, cv, h3, ih⟩
theorem lX9_until1 (ok : zO) (ex : zX) (G : zF) (t : Int32) (i : Nat) (h : zWP YX9_untilLeft ok ex 79 [some (.ref 0), some (.int (nI i)), some (.int t), some (.int 0), none, none] [] 0 0 (mCp G 4 1 0 197)) : ∀ (d k : Nat), k + d = 197 → zWP YX9_untilLeft ok ex 52 [some (.ref 0), some (.int (nI i)), some (.int t), some (.int (nI k)), none, none] [] 0 0 (mCp G 4 1 0 k) := by
  intro d
  induction d with
  | zero =>
    intro k hk
    have hk : k = 197 := hk
    subst hk
    refine zat_ok YX9_untilLeft_ok (inv := zih YX9_untilLeft ok ex [52, 79, 134]) zih_ok kX9_untilLeft (List.all_eq_true.mp kX9_untilLeft_ok) 52 _ _ _ _ _ ?_
    exact And.intro (fun _ => h) (fun g => absurd (by decide) g)
  | succ d ih =>
    intro k hk
    have ih := ih (k + 1) (by omega)
    have e1 : mCp G 4 1 0 k 1 (nI k).toNatClampNeg = G 1 (0 + k) := by
      rw [mCp_ne _ _ _ _ _ (by decide), nI_clamp (by omega), Nat.zero_add]
    have e2 : (nI k).toNatClampNeg = k := nI_clamp (by omega)
    rw [← nI_1, ← mCp_s, ← e1] at ih
    refine zat_ok YX9_untilLeft_ok (inv := zih YX9_untilLeft ok ex [52, 79, 134]) zih_ok kX9_untilLeft (List.all_eq_true.mp kX9_untilLeft_ok) 52 _ _ _ _ _ ?_
    refine And.intro (fun g => absurd g (nI_ge (a := k) (b := 197) (by omega) (by decide))) (fun _ => ?_)
    refine Exists.intro (zix (x := nI k) rfl (by omega) (by decide)) ?_
    refine Exists.intro (zix (x := nI k) rfl (by omega) (by decide)) ?_
    show zWP YX9_untilLeft ok ex 52 _ [] 0 0 (zup (mCp G 4 1 0 k) 4 (nI k).toNatClampNeg (mCp G 4 1 0 k 1 (nI k).toNatClampNeg))
    rw [show zup (mCp G 4 1 0 k) 4 (nI k).toNatClampNeg = zup (mCp G 4 1 0 k) 4 k by rw [e2]]
    exact ih

theorem mX9_untilLeft : zMet (UM) yX9_untilLeft cX9_untilLeft 6 (some .int) rX9_untilLeft (sX9_untilLeft) := by
  refine zmet (Y := YX9_untilLeft) rfl (by decide +kernel) ?_
  intro av F ok ex h
  unfold sX9_untilLeft at h
  split at h
  · rename_i s t
    refine zgo_ok (YX9_untilLeft_ok) (inv := zih YX9_untilLeft ok ex [52, 79, 134]) zih_ok kX9_untilLeft (List.all_eq_true.mp kX9_untilLeft_ok) 0 _ _ _ _ _ ?_
    refine And.intro (fun h1 => ?_) (fun h1 => zjne0 (h.2 h1))
    refine zjne1 ?_
    have h := h.1 h1
    refine And.intro (fun h2 => ?_) (fun h2 => zjne0 (h.2 h2))
    refine zjne1 ?_
    obtain ⟨i, rfl, hi, h⟩ := h.1 h2
    refine ⟨i, 4, rfl, rfl, hi, by decide, ?_⟩
    refine And.intro (fun h3 => ?_) (fun h3 => h.1 (Int32.not_le.mp h3))
    obtain ⟨S, N, h4, hN, h5, h6, h⟩ := h.2 (Int32.not_lt.mpr h3)
    have h7 := lX9_until2 ok ex t i hi S N hN h5 h6 h N 0 (Nat.zero_add _)
    rw [h4] at h7
    have h8 := lX9_until1 ok ex (mT F) t i h7 197 0 rfl
    rw [mCp_0] at h8
    exact h8
  · exact h.elim

end ZN4
