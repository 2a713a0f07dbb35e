/-! LockMaster.Canal: the choice, a lock's turn, a tick -/
section ZTi
theorem qLok_o (l : Int32) {k : Nat} (h : k ≠ 44) : ∀ (f : Nat) (F : zF) (i : Int32), qLok l f F i k = F k
  | 0, _, _ => rfl
  | f + 1, F, i => by
    simp only [qLok]
    split
    · rfl
    · split
      · rfl
      · rw [qLok_o l h f, qLk1_o F i h]
theorem qLook_o (F : zF) (hd l : Int32) {k : Nat} (h : k ≠ 44) : qLook F hd l k = F k := by
  unfold qLook
  rw [qLok_o l h]
  unfold qLk0
  rw [zup_ne _ _ _ h, zup_ne _ _ _ h, zup_ne _ _ _ h, zup_ne _ _ _ h]
theorem qEmp_o (F : zF) (i : Int32) {k : Nat} (h : k ≠ 18 ∧ k ≠ 20) : qEmp F i k = F k := by
  unfold qEmp
  rw [zwr_ne _ _ _ _ h.1, zwr_ne _ _ _ _ h.2]
theorem qFill_o (F : zF) (i : Int32) {k : Nat} (h : k ≠ 8 ∧ k ≠ 18 ∧ k ≠ 20) : qFill F i k = F k := by
  unfold qFill
  rw [zwr_ne _ _ _ _ h.2.1, zwr_ne _ _ _ _ h.2.2, zup_ne _ _ _ h.1]
theorem qFill_8 (F : zF) (i : Int32) {b : Nat} (h : b ≠ 8) : qFill F i 8 b = F 8 b := by
  unfold qFill
  rw [zwr_ne _ _ _ _ (by decide), zwr_ne _ _ _ _ (by decide), zup_an _ _ _ h]
theorem qTC_o (F : zF) (l : Int32) {k : Nat} (h : k ≠ 7 ∧ k ≠ 8 ∧ k ≠ 18 ∧ k ≠ 20) : qTC F l k = F k := by
  unfold qTC
  split
  · rw [qEmp_o _ _ h.2.2, zwr_ne _ _ _ _ h.1]
  · rw [qFill_o _ _ h.2, zwr_ne _ _ _ _ h.1]
theorem qTC_8 (F : zF) (l : Int32) {b : Nat} (h : b ≠ 8) : qTC F l 8 b = F 8 b := by
  unfold qTC
  split
  · rw [qEmp_o _ _ (by decide), zwr_ne _ _ _ _ (by decide)]
  · rw [qFill_8 _ _ h, zwr_ne _ _ _ _ (by decide)]
theorem qNm_o (v : Int32) {k : Nat} (h : k ≠ 41) : ∀ (f : Nat) (F : zF) (i : Int32), qNm v f F i k = F k
  | 0, _, _ => rfl
  | f + 1, F, i => by
    simp only [qNm]
    split
    · rfl
    · rw [qNm_o v h f, zwr_ne _ _ _ _ h]
theorem qCt_o (F : zF) (a r : Int32) {k : Nat} (h : k ≠ 41 ∧ k ≠ 43) : qCt F a r k = F k := by
  unfold qCt
  rw [qNm_o _ h.1, zwr_ne _ _ _ _ h.2]
theorem qLv_o (F : zF) (s t : Int32) {k : Nat} (h : k ≠ 35 ∧ k ≠ 37 ∧ k ≠ 39 ∧ k ≠ 41 ∧ k ≠ 43) : qLv F s t k = F k := by
  unfold qLv
  rw [zwr_ne _ _ _ _ h.2.2.2.2, zwr_ne _ _ _ _ h.2.2.2.1, zwr_ne _ _ _ _ h.2.2.1, zwr_ne _ _ _ _ h.1]
theorem qMO_o (F : zF) (s : Int32) {k : Nat} (h : k ≠ 35 ∧ k ≠ 37 ∧ k ≠ 39 ∧ k ≠ 41 ∧ k ≠ 43) : qMO F s k = F k := by
  unfold qMO
  split
  · rw [zwr_ne _ _ _ _ h.2.1, zwr_ne _ _ _ _ h.1]
  · exact qLv_o F s _ h
theorem qMv_o {k : Nat} (h : k ≠ 35 ∧ k ≠ 37 ∧ k ≠ 39 ∧ k ≠ 41 ∧ k ≠ 43) : ∀ (d : Nat) (F : zF) (s : Int32), qMv d F s k = F k
  | 0, _, _ => rfl
  | d + 1, F, s => by
    simp only [qMv]
    rw [qMv_o h d, qMO_o F s h]
theorem qLR_o (F : zF) (hd r l : Int32) {k : Nat} (h : k ≠ 35 ∧ k ≠ 37 ∧ k ≠ 39 ∧ k ≠ 41 ∧ k ≠ 43) (h2 : k ≠ 22 ∧ k ≠ 24) : qLR F hd r l k = F k := by
  unfold qLR
  rw [zwr_ne _ _ _ _ h2.2, zwr_ne _ _ _ _ h2.1, qMv_o h, qCt_o _ _ _ ⟨h.2.2.2.1, h.2.2.2.2⟩]
abbrev zC3 : Type := zF × Int32 × Int32
abbrev qCan (b : Int32) (F : zF) (i l : Int32) : Prop := qFA F i l ∧ ¬ F 0 7 < qSi F i ∧ (¬ b = 0 ∨ qUp F i = 1)
def qCC1 (l b : Int32) (S : zC3) (i : Int32) : zC3 :=
  if qCan b S.1 i l then
    (if qHR S.1 (qLook S.1 i (qLen S.1 l)) i l = 0 ∧ (S.2.1 = -1 ∨ S.2.2 < qPr (qLook S.1 i (qLen S.1 l)) i) then (qLook S.1 i (qLen S.1 l), i, qPr (qLook S.1 i (qLen S.1 l)) i) else (qLook S.1 i (qLen S.1 l), S.2.1, S.2.2))
  else S
def qCC (l b : Int32) (F : zF) : Nat → zC3
  | 0 => (F, -1, 0)
  | k + 1 => qCC1 l b (qCC l b F k) (nI k)
theorem qCC1_o (l b : Int32) (S : zC3) (i : Int32) {k : Nat} (h : k ≠ 44) : (qCC1 l b S i).1 k = S.1 k := by
  unfold qCC1
  split
  · split
    · exact qLook_o _ _ _ h
    · exact qLook_o _ _ _ h
  · rfl
theorem qCC_o (l b : Int32) (F : zF) (n : Nat) {k : Nat} (h : k ≠ 44) : (qCC l b F n).1 k = F k := by
  induction n with
  | zero => rfl
  | succ n ih => exact (qCC1_o _ _ _ _ h).trans ih
def sX1_chosenConvoy : zSp := fun as F ok _ => match as with
  | [.ref 0, .int l, .int b] => ok (some (.int (qCC l b F (F 25 9).toNatClampNeg).2.1)) (qCC l b F (F 25 9).toNatClampNeg).1
  | _ => False
def qT1 (G : zF) (c l : Int32) : zF := if (qFu G l = 1 ↔ qUp G c = 1) then qTC G l else G
def qT3 (H : zF) (c l : Int32) : zF := qLR (qLook H c (qLen H l)) c (qLook H c (qLen H l) 44 0) l
def qT2 (G : zF) (c l : Int32) : zF := if qUp G c = 1 ∧ ¬ qCFU (qT1 G c l) l then qT1 G c l else qT3 (qTC (qT1 G c l) l) c l
def qTb (F : zF) (l : Int32) : Int32 := if qCBR F l then 1 else 0
def qTT (F : zF) (l : Int32) : zF := if (qCC l (qTb F l) F (F 25 9).toNatClampNeg).2.1 = -1 then (qCC l (qTb F l) F (F 25 9).toNatClampNeg).1 else qT2 (qCC l (qTb F l) F (F 25 9).toNatClampNeg).1 (qCC l (qTb F l) F (F 25 9).toNatClampNeg).2.1 l
def sX1_takeTurn : zSp := fun as F ok _ => match as with
  | [.ref 0, .int l] => ok none (qTT F l)
  | _ => False
def qTTs (F : zF) : Nat → zF
  | 0 => F
  | k + 1 => qTT (qTTs F k) (nI k)
def qIn (G : zF) : zF := zwr 5 (zup G 0 8 (G 0 8 + G 0 6)) 7 0 (qW G 0 + G 0 6)
def qEnd (G : zF) : zF := zup (zup (qSp G (G 1 3).toNatClampNeg).1 0 9 (G 0 9 + (qSp G (G 1 3).toNatClampNeg).2)) 0 7 (G 0 7 + 1)
def qOT (F : zF) : zF := qEnd (qIn (qTTs F (F 8 9).toNatClampNeg))
def sX1_goOneTick : zSp := fun as F ok _ => match as with
  | [.ref 0] => ok none (qOT F)
  | _ => False
theorem qT1_89 (G : zF) (c l : Int32) : qT1 G c l 8 9 = G 8 9 := by
  unfold qT1
  split
  · exact qTC_8 _ _ (by decide)
  · rfl
theorem qTT_89 (F : zF) (l : Int32) : qTT F l 8 9 = F 8 9 := by
  unfold qTT
  split
  · rw [qCC_o _ _ _ _ (by decide)]
  · unfold qT2
    split
    · rw [qT1_89, qCC_o _ _ _ _ (by decide)]
    · unfold qT3
      rw [qLR_o _ _ _ _ (by decide) (by decide), qLook_o _ _ _ (by decide), qTC_8 _ _ (by decide), qT1_89, qCC_o _ _ _ _ (by decide)]
theorem qTTs_89 (F : zF) (n : Nat) : qTTs F n 8 9 = F 8 9 := by
  induction n with
  | zero => rfl
  | succ n ih => exact (qTT_89 _ _).trans ih

def kX1_chosenConvoy : List zI := [
  (0, 1, .iconst (-1), [], (-1)),
  (1, 1, .istore_n 3, [], 0),
  (2, 1, .iconst 0, [], 0),
  (3, 2, .istore 4, [], 0),
  (5, 1, .iconst 0, [], 0),
  (6, 2, .istore 5, [], 0),
  (8, 2, .iload 5, [], 0),
  (10, 1, .aload_n 0, [], 0),
  (11, 3, .getfield 28, [], 0),
  (14, 3, .getfield 97, [], 0),
  (17, 3, .if_icmp .ge 96, [113], 0),
  (20, 1, .aload_n 0, [], 0),
  (21, 3, .getfield 28, [], 0),
  (24, 2, .iload 5, [], 0),
  (26, 1, .iload_n 1, [], 0),
  (27, 3, .invokevirtual 98, [], 0),
  (30, 3, .ifCond .eq 42, [72], 0),
  (33, 1, .aload_n 0, [], 0),
  (34, 2, .iload 5, [], 0),
  (36, 3, .invokevirtual 187, [], 0),
  (39, 3, .ifCond .ne 33, [72], 0),
  (42, 1, .iload_n 2, [], 0),
  (43, 3, .ifCond .ne 15, [58], 0),
  (46, 1, .aload_n 0, [], 0),
  (47, 3, .getfield 28, [], 0),
  (50, 2, .iload 5, [], 0),
  (52, 3, .invokevirtual 114, [], 0),
  (55, 3, .ifCond .eq 17, [72], 0),
  (58, 1, .aload_n 0, [], 0),
  (59, 2, .iload 5, [], 0),
  (61, 1, .iload_n 1, [], 0),
  (62, 3, .invokevirtual 111, [], 0),
  (65, 3, .ifCond .ne 7, [72], 0),
  (68, 1, .iconst 1, [], 1),
  (69, 3, .goto 4, [73], 0),
  (72, 1, .iconst 0, [], 0),
  (73, 2, .istore 6, [], 0),
  (75, 2, .iload 6, [], 0),
  (77, 3, .ifCond .eq 30, [107], 0),
  (80, 1, .iload_n 3, [], 0),
  (81, 1, .iconst (-1), [], (-1)),
  (82, 3, .if_icmp .eq 14, [96], 0),
  (85, 1, .aload_n 0, [], 0),
  (86, 2, .iload 5, [], 0),
  (88, 3, .invokevirtual 108, [], 0),
  (91, 2, .iload 4, [], 0),
  (93, 3, .if_icmp .le 14, [107], 0),
  (96, 2, .iload 5, [], 0),
  (98, 1, .istore_n 3, [], 0),
  (99, 1, .aload_n 0, [], 0),
  (100, 2, .iload 5, [], 0),
  (102, 3, .invokevirtual 108, [], 0),
  (105, 2, .istore 4, [], 0),
  (107, 3, .iinc 5 1, [], 1),
  (110, 3, .goto (-102), [8], 0),
  (113, 1, .iload_n 3, [], 0),
  (114, 1, .ireturn, [], 0)]
theorem kX1_chosenConvoy_ok : kX1_chosenConvoy.all (zck cX1_chosenConvoy) = true := by decide +kernel

def rX1_chosenConvoy : Room := { frames := 3, cells := 0, slots := 0, locals := 69 }
abbrev YX1_chosenConvoy : zM := (RX1, cX1_chosenConvoy, 7, some .int, rX1_chosenConvoy, UC, zlk fX1, zcs [(98, 3, 0, 0, zvs (UC) 3 (sX3_isFirstAt)), (187, 2, 0, 0, zvs (UC) 1 (sX1_wasLockedNow)), (114, 2, 0, 0, zvs (UC) 3 (sX3_goesUp)), (111, 3, 0, 0, zvs (UC) 1 (sX1_hindranceByRules)), (108, 2, 0, 0, zvs (UC) 1 (sX1_priorityOf))] [])
theorem YX1_chosenConvoy_ok : zYok (YX1_chosenConvoy) := zYok_of fX1_ok (zall (zcal_mono (zcalV (Y := YX1_chosenConvoy) (y := yX3_isFirstAt) (cc := cX3_isFirstAt) (nL := 3) (ret := some .boolean) (rm := rX3_isFirstAt) (mX3_isFirstAt) 98 2 3 (T := TX3) rfl wX1_98 ⟨by decide +kernel, by decide +kernel, by decide +kernel⟩ (by decide) ⟨Nat.le_of_ble_eq_true rfl, Nat.le_of_ble_eq_true rfl⟩) (fun _ _ _ _ h => zvs_P h)) (zall (zcal_mono (zcalV (Y := YX1_chosenConvoy) (y := yX1_wasLockedNow) (cc := cX1_wasLockedNow) (nL := 2) (ret := some .boolean) (rm := rX1_wasLockedNow) (mX1_wasLockedNow) 187 1 1 (T := TX1) rfl wX1_187 ⟨by decide +kernel, by decide +kernel, by decide +kernel⟩ (by decide) ⟨Nat.le_of_ble_eq_true rfl, Nat.le_of_ble_eq_true rfl⟩) (fun _ _ _ _ h => zvs_P h)) (zall (zcal_mono (zcalV (Y := YX1_chosenConvoy) (y := yX3_goesUp) (cc := cX3_goesUp) (nL := 2) (ret := some .boolean) (rm := rX3_goesUp) (mX3_goesUp) 114 1 3 (T := TX3) rfl wX1_114 ⟨by decide +kernel, by decide +kernel, by decide +kernel⟩ (by decide) ⟨Nat.le_of_ble_eq_true rfl, Nat.le_of_ble_eq_true rfl⟩) (fun _ _ _ _ h => zvs_P h)) (zall (zcal_mono (zcalV (Y := YX1_chosenConvoy) (y := yX1_hindranceByRules) (cc := cX1_hindranceByRules) (nL := 5) (ret := some .int) (rm := rX1_hindranceByRules) (mX1_hindranceByRules) 111 2 1 (T := TX1) rfl wX1_111 ⟨by decide +kernel, by decide +kernel, by decide +kernel⟩ (by decide) ⟨Nat.le_of_ble_eq_true rfl, Nat.le_of_ble_eq_true rfl⟩) (fun _ _ _ _ h => zvs_P h)) (zall (zcal_mono (zcalV (Y := YX1_chosenConvoy) (y := yX1_priorityOf) (cc := cX1_priorityOf) (nL := 3) (ret := some .int) (rm := rX1_priorityOf) (mX1_priorityOf) 108 1 1 (T := TX1) rfl wX1_108 ⟨by decide +kernel, by decide +kernel, by decide +kernel⟩ (by decide) ⟨Nat.le_of_ble_eq_true rfl, Nat.le_of_ble_eq_true rfl⟩) (fun _ _ _ _ h => zvs_P h)) znil))))) znil

theorem lX1_chosenConvoy (ok : zO) (ex : zX) (F : zF) (l b : Int32) (h : ok (some (.int (qCC l b F (F 25 9).toNatClampNeg).2.1)) (qCC l b F (F 25 9).toNatClampNeg).1) : ∀ (d k : Nat) (w : Option Value), k + d = (F 25 9).toNatClampNeg → zWP YX1_chosenConvoy ok ex 8 [some (.ref 0), some (.int l), some (.int b), some (.int (qCC l b F k).2.1), some (.int (qCC l b F k).2.2), some (.int (nI k)), w] [] 0 0 (qCC l b F k).1 := by
  intro d
  induction d with
  | zero =>
    intro k w hk
    have hk : k = (F 25 9).toNatClampNeg := hk
    refine zat_ok YX1_chosenConvoy_ok zno kX1_chosenConvoy (List.all_eq_true.mp kX1_chosenConvoy_ok) 8 _ _ _ _ _ ?_
    refine And.intro (fun _ => by rw [hk]; exact h) (fun h1 => absurd ?_ h1)
    show (qCC l b F k).1 25 9 ≤ nI k
    rw [qCC_o _ _ _ _ (by decide), hk]
    exact zcnt_ge _
  | succ d ih =>
    intro k w hk
    refine zat_ok YX1_chosenConvoy_ok (inv := zi1 8 (fun ls st kc ks G => zWP YX1_chosenConvoy ok ex 8 ls st kc ks G)) (zone fun _ _ _ _ _ h => h) kX1_chosenConvoy (List.all_eq_true.mp kX1_chosenConvoy_ok) 8 _ _ _ _ _ ?_
    refine And.intro (fun h1 => absurd ?_ (zcnt_lt (c := F 25 9) (k := k) (by omega))) (fun h1 => ?_)
    · have h1 : (qCC l b F k).1 25 9 ≤ nI k := h1
      rw [qCC_o _ _ _ _ (by decide)] at h1
      exact h1
    have ih := fun w => ih (k + 1) w (by omega)
    have e : qCC l b F (k + 1) = qCC1 l b (qCC l b F k) (nI k) := rfl
    rw [e, ← nI_1] at ih
    generalize qCC l b F k = S at ih ⊢
    unfold qCC1 at ih
    refine And.intro (fun hc => ?_) (fun hc => ?_)
    · refine And.intro (fun h0 => absurd h0 (by decide)) (fun _ => ?_)
      refine And.intro (fun hw => ?_) (fun hw => ?_)
      · refine And.intro (fun _ => ?_) (fun h0 => absurd h0 (by decide))
        rw [if_neg (fun q => q.2.1 hw)] at ih
        exact And.intro (fun _ => ih _) (fun h0 => absurd rfl h0)
      · refine And.intro (fun h0 => absurd rfl h0) (fun _ => ?_)
        have go : qCan b S.1 (nI k) l → zgo YX1_chosenConvoy ok ex (zi1 8 (fun ls st kc ks G => zWP YX1_chosenConvoy ok ex 8 ls st kc ks G)) (kX1_chosenConvoy.drop 22) 58 [some (.ref 0), some (.int l), some (.int b), some (.int S.2.1), some (.int S.2.2), some (.int (nI k)), w] [] 0 0 S.1 := by
          intro hq
          rw [if_pos hq] at ih
          generalize hG : qLook S.1 (nI k) (qLen S.1 l) = G at ih
          refine And.intro (fun hr => ?_) (fun hr => ?_)
          · have hr : ¬ qHR S.1 (qLook S.1 (nI k) (qLen S.1 l)) (nI k) l = 0 := hr
            rw [hG] at hr
            rw [if_neg (fun q => hr q.1)] at ih
            subst hG
            exact And.intro (fun _ => ih _) (fun h0 => absurd rfl h0)
          · have hr : qHR S.1 (qLook S.1 (nI k) (qLen S.1 l)) (nI k) l = 0 := hr
            rw [hG] at hr
            refine And.intro (fun h0 => absurd h0 (by decide)) (fun _ => ?_)
            refine And.intro (fun hc1 => ?_) (fun hc1 => And.intro (fun hp => ?_) (fun hp => ?_))
            · rw [if_pos ⟨hr, Or.inl hc1⟩] at ih
              subst hG
              exact ih _
            · have hp : qPr (qLook S.1 (nI k) (qLen S.1 l)) (nI k) ≤ S.2.2 := hp
              rw [hG] at hp
              rw [if_neg (fun q => q.2.elim hc1 (Int32.not_lt.mpr hp))] at ih
              subst hG
              exact ih _
            · have hp : ¬ qPr (qLook S.1 (nI k) (qLen S.1 l)) (nI k) ≤ S.2.2 := hp
              rw [hG] at hp
              rw [if_pos ⟨hr, Or.inr (Int32.not_le.mp hp)⟩] at ih
              subst hG
              exact ih _
        refine And.intro (fun hb => ?_) (fun hb => ?_)
        · exact go ⟨hc, hw, Or.inl hb⟩
        · refine And.intro (fun hu => ?_) (fun hu => ?_)
          · exact And.intro (fun h0 => absurd h0 (by decide)) (fun _ => go ⟨hc, hw, Or.inr hu⟩)
          · refine And.intro (fun _ => ?_) (fun h0 => absurd rfl h0)
            rw [if_neg (fun q => q.2.2.elim (fun z => z hb) hu)] at ih
            exact And.intro (fun _ => ih _) (fun h0 => absurd rfl h0)
    · refine And.intro (fun _ => ?_) (fun h0 => absurd rfl h0)
      rw [if_neg (fun q => hc q.1)] at ih
      exact And.intro (fun _ => ih _) (fun h0 => absurd rfl h0)

theorem mX1_chosenConvoy : zMet (UC) yX1_chosenConvoy cX1_chosenConvoy 7 (some .int) rX1_chosenConvoy (sX1_chosenConvoy) := by
  refine zmet (Y := YX1_chosenConvoy) rfl (by decide +kernel) ?_
  intro av F ok ex h
  unfold sX1_chosenConvoy at h
  split at h
  · rename_i l b
    refine zgo_ok (YX1_chosenConvoy_ok) (inv := zi1 8 (fun ls st kc ks G => zWP YX1_chosenConvoy ok ex 8 ls st kc ks G)) (zone fun _ _ _ _ _ h => h) kX1_chosenConvoy (List.all_eq_true.mp kX1_chosenConvoy_ok) 0 _ _ _ _ _ ?_
    exact lX1_chosenConvoy ok ex F l b h _ 0 none (Nat.zero_add _)
  · exact h.elim

def kX1_takeTurn : List zI := [
  (0, 1, .aload_n 0, [], 0),
  (1, 1, .iload_n 1, [], 0),
  (2, 1, .aload_n 0, [], 0),
  (3, 1, .iload_n 1, [], 0),
  (4, 3, .invokevirtual 121, [], 0),
  (7, 3, .invokevirtual 176, [], 0),
  (10, 1, .istore_n 2, [], 0),
  (11, 1, .iload_n 2, [], 0),
  (12, 1, .iconst (-1), [], (-1)),
  (13, 3, .if_icmp .ne 4, [17], 0),
  (16, 1, .return_, [], 0),
  (17, 1, .aload_n 0, [], 0),
  (18, 3, .getfield 28, [], 0),
  (21, 1, .iload_n 2, [], 0),
  (22, 3, .invokevirtual 114, [], 0),
  (25, 1, .istore_n 3, [], 0),
  (26, 1, .aload_n 0, [], 0),
  (27, 3, .getfield 21, [], 0),
  (30, 1, .iload_n 1, [], 0),
  (31, 3, .invokevirtual 147, [], 0),
  (34, 1, .iload_n 3, [], 0),
  (35, 3, .if_icmp .ne 8, [43], 0),
  (38, 1, .aload_n 0, [], 0),
  (39, 1, .iload_n 1, [], 0),
  (40, 3, .invokevirtual 180, [], 0),
  (43, 1, .iload_n 3, [], 0),
  (44, 3, .ifCond .eq 12, [56], 0),
  (47, 1, .aload_n 0, [], 0),
  (48, 1, .iload_n 1, [], 0),
  (49, 3, .invokevirtual 118, [], 0),
  (52, 3, .ifCond .ne 4, [56], 0),
  (55, 1, .return_, [], 0),
  (56, 1, .aload_n 0, [], 0),
  (57, 1, .iload_n 1, [], 0),
  (58, 3, .invokevirtual 180, [], 0),
  (61, 1, .aload_n 0, [], 0),
  (62, 3, .getfield 35, [], 0),
  (65, 1, .aload_n 0, [], 0),
  (66, 3, .getfield 28, [], 0),
  (69, 1, .iload_n 2, [], 0),
  (70, 1, .aload_n 0, [], 0),
  (71, 3, .getfield 21, [], 0),
  (74, 3, .getfield 124, [], 0),
  (77, 1, .iload_n 1, [], 0),
  (78, 3, .invokevirtual 84, [], 0),
  (81, 3, .invokevirtual 127, [], 0),
  (84, 1, .aload_n 0, [], 0),
  (85, 1, .iload_n 2, [], 0),
  (86, 1, .aload_n 0, [], 0),
  (87, 3, .getfield 35, [], 0),
  (90, 3, .getfield 131, [], 0),
  (93, 1, .iload_n 1, [], 0),
  (94, 3, .invokevirtual 183, [], 0),
  (97, 1, .return_, [], 0)]
theorem kX1_takeTurn_ok : kX1_takeTurn.all (zck cX1_takeTurn) = true := by decide +kernel

def rX1_takeTurn : Room := { frames := 4, cells := 0, slots := 0, locals := 95 }
abbrev YX1_takeTurn : zM := (RX1, cX1_takeTurn, 4, none, rX1_takeTurn, UC, zlk fX1, zcs [(121, 2, 0, 0, zvs (UC) 1 (sX1_canBeReadyForDown)), (176, 3, 0, 0, zvs (UC) 1 (sX1_chosenConvoy)), (114, 2, 0, 0, zvs (UC) 3 (sX3_goesUp)), (147, 2, 0, 0, zvs (UC) 5 (sX5_isFull)), (180, 2, 0, 0, zvs (UC) 1 (sX1_turnChamber)), (118, 2, 0, 0, zvs (UC) 1 (sX1_canFillForUp)), (84, 2, 0, 0, zvs (UC) 7 (sU_at UC)), (127, 4, 0, 0, zvs (UC) 4 (sX4_lookAt)), (183, 4, 0, 0, zvs (UC) 1 (sX1_lockRow))] [])
theorem YX1_takeTurn_ok : zYok (YX1_takeTurn) := zYok_of fX1_ok (zall (zcal_mono (zcalV (Y := YX1_takeTurn) (y := yX1_canBeReadyForDown) (cc := cX1_canBeReadyForDown) (nL := 2) (ret := some .boolean) (rm := rX1_canBeReadyForDown) (mX1_canBeReadyForDown) 121 1 1 (T := TX1) rfl wX1_121 ⟨by decide +kernel, by decide +kernel, by decide +kernel⟩ (by decide) ⟨Nat.le_of_ble_eq_true rfl, Nat.le_of_ble_eq_true rfl⟩) (fun _ _ _ _ h => zvs_P h)) (zall (zcal_mono (zcalV (Y := YX1_takeTurn) (y := yX1_chosenConvoy) (cc := cX1_chosenConvoy) (nL := 7) (ret := some .int) (rm := rX1_chosenConvoy) (mX1_chosenConvoy) 176 2 1 (T := TX1) rfl wX1_176 ⟨by decide +kernel, by decide +kernel, by decide +kernel⟩ (by decide) ⟨Nat.le_of_ble_eq_true rfl, Nat.le_of_ble_eq_true rfl⟩) (fun _ _ _ _ h => zvs_P h)) (zall (zcal_mono (zcalV (Y := YX1_takeTurn) (y := yX3_goesUp) (cc := cX3_goesUp) (nL := 2) (ret := some .boolean) (rm := rX3_goesUp) (mX3_goesUp) 114 1 3 (T := TX3) rfl wX1_114 ⟨by decide +kernel, by decide +kernel, by decide +kernel⟩ (by decide) ⟨Nat.le_of_ble_eq_true rfl, Nat.le_of_ble_eq_true rfl⟩) (fun _ _ _ _ h => zvs_P h)) (zall (zcal_mono (zcalV (Y := YX1_takeTurn) (y := yX5_isFull) (cc := cX5_isFull) (nL := 2) (ret := some .boolean) (rm := rX5_isFull) (mX5_isFull) 147 1 5 (T := TX5) rfl wX1_147 ⟨by decide +kernel, by decide +kernel, by decide +kernel⟩ (by decide) ⟨Nat.le_of_ble_eq_true rfl, Nat.le_of_ble_eq_true rfl⟩) (fun _ _ _ _ h => zvs_P h)) (zall (zcal_mono (zcalV (Y := YX1_takeTurn) (y := yX1_turnChamber) (cc := cX1_turnChamber) (nL := 2) (ret := none) (rm := rX1_turnChamber) (mX1_turnChamber) 180 1 1 (T := TX1) rfl wX1_180 ⟨by decide +kernel, by decide +kernel, by decide +kernel⟩ (by decide) ⟨Nat.le_of_ble_eq_true rfl, Nat.le_of_ble_eq_true rfl⟩) (fun _ _ _ _ h => zvs_P h)) (zall (zcal_mono (zcalV (Y := YX1_takeTurn) (y := yX1_canFillForUp) (cc := cX1_canFillForUp) (nL := 4) (ret := some .boolean) (rm := rX1_canFillForUp) (mX1_canFillForUp) 118 1 1 (T := TX1) rfl wX1_118 ⟨by decide +kernel, by decide +kernel, by decide +kernel⟩ (by decide) ⟨Nat.le_of_ble_eq_true rfl, Nat.le_of_ble_eq_true rfl⟩) (fun _ _ _ _ h => zvs_P h)) (zall (zcal_mono (zcalV (Y := YX1_takeTurn) (y := yX7_at) (cc := cX7_at) (nL := 2) (ret := some .int) (rm := rX7_at) (mU_at UC UC_small) 84 1 7 (T := TX7) rfl wX1_84 ⟨by decide +kernel, by decide +kernel, by decide +kernel⟩ (by decide) ⟨Nat.le_of_ble_eq_true rfl, Nat.le_of_ble_eq_true rfl⟩) (fun _ _ _ _ h => zvs_P h)) (zall (zcal_mono (zcalV (Y := YX1_takeTurn) (y := yX4_lookAt) (cc := cX4_lookAt) (nL := 5) (ret := none) (rm := rX4_lookAt) (mX4_lookAt) 127 3 4 (T := TX4) rfl wX1_127 ⟨by decide +kernel, by decide +kernel, by decide +kernel⟩ (by decide) ⟨Nat.le_of_ble_eq_true rfl, Nat.le_of_ble_eq_true rfl⟩) (fun _ _ _ _ h => zvs_P h)) (zall (zcal_mono (zcalV (Y := YX1_takeTurn) (y := yX1_lockRow) (cc := cX1_lockRow) (nL := 7) (ret := none) (rm := rX1_lockRow) (mX1_lockRow) 183 3 1 (T := TX1) rfl wX1_183 ⟨by decide +kernel, by decide +kernel, by decide +kernel⟩ (by decide) ⟨Nat.le_of_ble_eq_true rfl, Nat.le_of_ble_eq_true rfl⟩) (fun _ _ _ _ h => zvs_P h)) znil))))))))) znil

theorem lX1_takeTurn3 (ok : zO) (ex : zX) (G : zF) (c l u : Int32) (h : ok none (qT3 (qTC G l) c l)) : zgo YX1_takeTurn ok ex zi0 (kX1_takeTurn.drop 32) 56 [some (.ref 0), some (.int l), some (.int c), some (.int u)] [] 0 0 G := h
theorem lX1_takeTurn2 (ok : zO) (ex : zX) (G : zF) (c l u : Int32) (hu : u = if qUp G c = 1 then 1 else 0) (h : ok none (qT2 G c l)) : zgo YX1_takeTurn ok ex zi0 (kX1_takeTurn.drop 25) 43 [some (.ref 0), some (.int l), some (.int c), some (.int u)] [] 0 0 (qT1 G c l) := by
  unfold qT2 at h
  by_cases hq : qUp G c = 1
  · rw [if_pos hq] at hu
    subst hu
    refine And.intro (fun h0 => absurd h0 (by decide)) (fun _ => ?_)
    refine And.intro (fun hf => ?_) (fun hf => ?_)
    · rw [if_neg (fun z => z.2 hf)] at h
      exact And.intro (fun _ => lX1_takeTurn3 ok ex _ c l 1 h) (fun h0 => absurd h0 (by decide))
    · rw [if_pos ⟨hq, hf⟩] at h
      exact And.intro (fun h0 => absurd rfl h0) (fun _ => h)
  · rw [if_neg hq] at hu
    subst hu
    rw [if_neg (fun z => hq z.1)] at h
    exact And.intro (fun _ => lX1_takeTurn3 ok ex _ c l 0 h) (fun h0 => absurd rfl h0)
theorem lX1_takeTurn1 (ok : zO) (ex : zX) (G : zF) (c l : Int32) (h : ok none (qT2 G c l)) : zgo YX1_takeTurn ok ex zi0 (kX1_takeTurn.drop 11) 17 [some (.ref 0), some (.int l), some (.int c), none] [] 0 0 G := by
  refine And.intro (fun hu => ?_) (fun hu => ?_)
  · have key := lX1_takeTurn2 ok ex G c l 1 (by rw [if_pos hu]) h
    unfold qT1 at key
    refine And.intro (fun hf => ?_) (fun hf => ?_)
    · rw [if_pos ⟨fun _ => hu, fun _ => hf⟩] at key
      exact And.intro (fun h0 => absurd rfl h0) (fun _ => key)
    · rw [if_neg (fun z => hf (z.mpr hu))] at key
      exact And.intro (fun _ => key) (fun h0 => absurd h0 (by decide))
  · have key := lX1_takeTurn2 ok ex G c l 0 (by rw [if_neg hu]) h
    unfold qT1 at key
    refine And.intro (fun hf => ?_) (fun hf => ?_)
    · rw [if_neg (fun z => hu (z.mp hf))] at key
      exact And.intro (fun _ => key) (fun h0 => absurd h0 (by decide))
    · rw [if_pos ⟨fun z => absurd z hf, fun z => absurd z hu⟩] at key
      exact And.intro (fun h0 => absurd rfl h0) (fun _ => key)

theorem mX1_takeTurn : zMet (UC) yX1_takeTurn cX1_takeTurn 4 (none) rX1_takeTurn (sX1_takeTurn) := by
  refine zmet (Y := YX1_takeTurn) rfl (by decide +kernel) ?_
  intro av F ok ex h
  unfold sX1_takeTurn at h
  split at h
  · rename_i l
    refine zgo_ok (YX1_takeTurn_ok) zno kX1_takeTurn (List.all_eq_true.mp kX1_takeTurn_ok) 0 _ _ _ _ _ ?_
    unfold qTT at h
    have go : ∀ (b : Int32), qTb F l = b → zgo YX1_takeTurn ok ex zi0 (kX1_takeTurn.drop 5) 7 [some (.ref 0), some (.int l), none, none] [.int b, .int l, .ref 0] 0 0 F := by
      intro b hb
      rw [hb] at h
      show (¬ (qCC l b F (F 25 9).toNatClampNeg).2.1 = -1 → _) ∧ ((qCC l b F (F 25 9).toNatClampNeg).2.1 = -1 → _)
      generalize qCC l b F (F 25 9).toNatClampNeg = S at h
      refine And.intro (fun hc => ?_) (fun hc => ?_)
      · rw [if_neg hc] at h
        exact lX1_takeTurn1 ok ex _ _ l h
      · rw [if_pos hc] at h
        exact h
    refine And.intro (fun hb => ?_) (fun hb => ?_)
    · exact go 1 (by unfold qTb; exact if_pos hb)
    · exact go 0 (by unfold qTb; exact if_neg hb)
  · exact h.elim

def kX1_goOneTick : List zI := [
  (0, 1, .iconst 0, [], 0),
  (1, 1, .istore_n 1, [], 0),
  (2, 1, .iload_n 1, [], 0),
  (3, 1, .aload_n 0, [], 0),
  (4, 3, .getfield 21, [], 0),
  (7, 3, .getfield 72, [], 0),
  (10, 3, .if_icmp .ge 14, [24], 0),
  (13, 1, .aload_n 0, [], 0),
  (14, 1, .iload_n 1, [], 0),
  (15, 3, .invokevirtual 165, [], 0),
  (18, 3, .iinc 1 1, [], 1),
  (21, 3, .goto (-19), [2], 0),
  (24, 1, .aload_n 0, [], 0),
  (25, 1, .dup, [], 0),
  (26, 3, .getfield 52, [], 0),
  (29, 1, .aload_n 0, [], 0),
  (30, 3, .getfield 46, [], 0),
  (33, 1, .iadd, [], 0),
  (34, 3, .putfield 52, [], 0),
  (37, 1, .aload_n 0, [], 0),
  (38, 3, .getfield 12, [], 0),
  (41, 3, .getfield 150, [], 0),
  (44, 1, .iconst 0, [], 0),
  (45, 1, .aload_n 0, [], 0),
  (46, 3, .getfield 46, [], 0),
  (49, 3, .invokevirtual 169, [], 0),
  (52, 1, .aload_n 0, [], 0),
  (53, 1, .dup, [], 0),
  (54, 3, .getfield 55, [], 0),
  (57, 1, .aload_n 0, [], 0),
  (58, 3, .getfield 12, [], 0),
  (61, 3, .invokevirtual 172, [], 0),
  (64, 1, .iadd, [], 0),
  (65, 3, .putfield 55, [], 0),
  (68, 1, .aload_n 0, [], 0),
  (69, 1, .dup, [], 0),
  (70, 3, .getfield 49, [], 0),
  (73, 1, .iconst 1, [], 1),
  (74, 1, .iadd, [], 0),
  (75, 3, .putfield 49, [], 0),
  (78, 1, .return_, [], 0)]
theorem kX1_goOneTick_ok : kX1_goOneTick.all (zck cX1_goOneTick) = true := by decide +kernel

def rX1_goOneTick : Room := { frames := 5, cells := 0, slots := 0, locals := 118 }
abbrev YX1_goOneTick : zM := (RX1, cX1_goOneTick, 2, none, rX1_goOneTick, UC, zlk fX1, zcs [(165, 2, 0, 0, zvs (UC) 1 (sX1_takeTurn)), (169, 3, 0, 0, zvs (UC) 7 (sU_add UC)), (172, 1, 0, 0, zvs (UC) 6 (sX6_spill))] [])
theorem YX1_goOneTick_ok : zYok (YX1_goOneTick) := zYok_of fX1_ok (zall (zcal_mono (zcalV (Y := YX1_goOneTick) (y := yX1_takeTurn) (cc := cX1_takeTurn) (nL := 4) (ret := none) (rm := rX1_takeTurn) (mX1_takeTurn) 165 1 1 (T := TX1) rfl wX1_165 ⟨by decide +kernel, by decide +kernel, by decide +kernel⟩ (by decide) ⟨Nat.le_of_ble_eq_true rfl, Nat.le_of_ble_eq_true rfl⟩) (fun _ _ _ _ h => zvs_P h)) (zall (zcal_mono (zcalV (Y := YX1_goOneTick) (y := yX7_add) (cc := cX7_add) (nL := 3) (ret := none) (rm := rX7_add) (mU_add UC UC_small) 169 2 7 (T := TX7) rfl wX1_169 ⟨by decide +kernel, by decide +kernel, by decide +kernel⟩ (by decide) ⟨Nat.le_of_ble_eq_true rfl, Nat.le_of_ble_eq_true rfl⟩) (fun _ _ _ _ h => zvs_P h)) (zall (zcal_mono (zcalV (Y := YX1_goOneTick) (y := yX6_spill) (cc := cX6_spill) (nL := 3) (ret := some .int) (rm := rX6_spill) (mX6_spill) 172 0 6 (T := TX6) rfl wX1_172 ⟨by decide +kernel, by decide +kernel, by decide +kernel⟩ (by decide) ⟨Nat.le_of_ble_eq_true rfl, Nat.le_of_ble_eq_true rfl⟩) (fun _ _ _ _ h => zvs_P h)) znil))) znil

theorem lX1_goOneTick (ok : zO) (ex : zX) (F : zF) (h : ok none (qOT F)) : ∀ (d k : Nat), k + d = (F 8 9).toNatClampNeg → zWP YX1_goOneTick ok ex 2 [some (.ref 0), some (.int (nI k))] [] 0 0 (qTTs F k) := by
  intro d
  induction d with
  | zero =>
    intro k hk
    have hk : k = (F 8 9).toNatClampNeg := hk
    refine zat_ok YX1_goOneTick_ok zno kX1_goOneTick (List.all_eq_true.mp kX1_goOneTick_ok) 2 _ _ _ _ _ ?_
    refine And.intro (fun _ => ?_) (fun h1 => absurd ?_ h1)
    · unfold qOT at h
      rw [← hk] at h
      generalize qTTs F k = G at h
      refine zleaf ok h rfl ?_
      have e1 : qIn G = zwr 5 (zup G 0 8 (G 0 8 + G 0 6)) 7 0 (zrd 5 (zup G 0 8 (G 0 8 + G 0 6) 7) 0 + zup G 0 8 (G 0 8 + G 0 6) 0 6) := by
        unfold qIn
        rw [zup_ne _ _ _ (show 7 ≠ 0 by decide), zup_an _ _ _ (show 6 ≠ 8 by decide)]
      rw [e1]
      show qEnd (zwr 5 (zup G 0 8 (G 0 8 + G 0 6)) 7 0 (zrd 5 (zup G 0 8 (G 0 8 + G 0 6) 7) 0 + zup G 0 8 (G 0 8 + G 0 6) 0 6)) = _
      generalize hF2 : zwr 5 (zup G 0 8 (G 0 8 + G 0 6)) 7 0 (zrd 5 (zup G 0 8 (G 0 8 + G 0 6) 7) 0 + zup G 0 8 (G 0 8 + G 0 6) 0 6) = F2
      have e2 : qEnd F2 = zup (zup (qSp F2 (F2 1 3).toNatClampNeg).1 0 9 (F2 0 9 + (qSp F2 (F2 1 3).toNatClampNeg).2)) 0 7 (zup (qSp F2 (F2 1 3).toNatClampNeg).1 0 9 (F2 0 9 + (qSp F2 (F2 1 3).toNatClampNeg).2) 0 7 + 1) := by
        unfold qEnd
        rw [zup_an _ _ _ (show 7 ≠ 9 by decide), qSp_3 _ _ _ (show 0 ≠ 7 by decide)]
      rw [e2, ← hF2]
    · show (qTTs F k) 8 9 ≤ nI k
      rw [qTTs_89, hk]
      exact zcnt_ge _
  | succ d ih =>
    intro k hk
    refine zat_ok YX1_goOneTick_ok (inv := zi1 2 (fun ls st kc ks G => zWP YX1_goOneTick ok ex 2 ls st kc ks G)) (zone fun _ _ _ _ _ h => h) kX1_goOneTick (List.all_eq_true.mp kX1_goOneTick_ok) 2 _ _ _ _ _ ?_
    refine And.intro (fun h1 => absurd ?_ (zcnt_lt (c := F 8 9) (k := k) (by omega))) (fun h1 => ?_)
    · have h1 : (qTTs F k) 8 9 ≤ nI k := h1
      rw [qTTs_89] at h1
      exact h1
    have ih := ih (k + 1) (by omega)
    rw [← nI_1] at ih
    exact ih

theorem mX1_goOneTick : zMet (UC) yX1_goOneTick cX1_goOneTick 2 (none) rX1_goOneTick (sX1_goOneTick) := by
  refine zmet (Y := YX1_goOneTick) rfl (by decide +kernel) ?_
  intro av F ok ex h
  unfold sX1_goOneTick at h
  split at h
  · refine zgo_ok (YX1_goOneTick_ok) (inv := zi1 2 (fun ls st kc ks G => zWP YX1_goOneTick ok ex 2 ls st kc ks G)) (zone fun _ _ _ _ _ h => h) kX1_goOneTick (List.all_eq_true.mp kX1_goOneTick_ok) 0 _ _ _ _ _ ?_
    exact lX1_goOneTick ok ex F h _ 0 (Nat.zero_add _)
  · exact h.elim

end ZTi
