/-! the law's case of meanLocked -/
section ZFk
set_option maxRecDepth 40000
def kL_meanLocked_a : List zI := [
  (0, 1, .aload_n 1, [], 0),
  (1, 1, .iconst 0, [], 0),
  (2, 1, .aload_n 0, [], 0),
  (3, 3, .invokevirtual 79, [], 0)]
theorem kL_meanLocked_a_ok : kL_meanLocked_a.all (zck cL_meanLocked) = true := by decide +kernel
def kL_meanLocked_b : List zI := [
  (7, 3, .goto 6, [13], 0),
  (10, 1, .astore_n 2, [], 0),
  (11, 1, .iconst 1, [], 1),
  (12, 1, .ireturn, [], 0),
  (13, 1, .iconst 0, [], 0),
  (14, 1, .ireturn, [], 0)]
theorem kL_meanLocked_b_ok : kL_meanLocked_b.all (zck cL_meanLocked) = true := by decide +kernel
theorem wL_79 : ∀ w ∈ [Cond.methodLink RL 79 yX8_meanLocked, Cond.initialized yX8_meanLocked.cls, Cond.code yX8_meanLocked cX8_meanLocked 2 (some .double), Cond.instanceMethod yX8_meanLocked, Cond.selects yX8_meanLocked.cls yX8_meanLocked yX8_meanLocked], w ∈ zts := (zall (zmem 1052 (by decide +kernel) (by decide +kernel)) (zall (zmem 59 (by decide +kernel) (by decide +kernel)) (zall (zmem 1055 (by decide +kernel) (by decide +kernel)) (zall (zmem 1053 (by decide +kernel) (by decide +kernel)) (zall (zmem 1054 (by decide +kernel) (by decide +kernel)) znil)))))
def rL_meanLocked : Room := { frames := 7, cells := 1, slots := 6, locals := 103 }
def hL_meanLocked : List zHd := [((0, 7, 10, 83), xR)]
theorem wL_meanLocked : zhw RL hL_meanLocked := zall zhq_xR (znil)
abbrev YL_meanLocked : zM := (RL, cL_meanLocked, 3, some .int, rL_meanLocked, UL, fun _ => none, zcs [(79, 1, 1, 6, zvs UL 8 (sLC sX8_meanLocked))] [])
theorem uL_meanLocked : zMet UL yX8_meanLocked cX8_meanLocked 2 (some .double) rX8_meanLocked (sLC sX8_meanLocked) := zliftC mX8_meanLocked
theorem vL_meanLocked (ok : zO) : zCalX YL_meanLocked (zKl YL_meanLocked hL_meanLocked) (zQl YL_meanLocked ok) (zAl YL_meanLocked) (zxk YL_meanLocked hL_meanLocked ok) true 79 1 1 6 (zvsP UL 8 (sLC sX8_meanLocked)) := zcalL (Y := YL_meanLocked) (y := yX8_meanLocked) (cc := cX8_meanLocked) (nL := 2) (ret := some .double) (rm := rX8_meanLocked) uL_meanLocked 79 0 8 (T := TX8) rfl wL_79 ⟨by decide +kernel, by decide +kernel, by decide +kernel⟩ (by decide) ⟨Nat.le_of_ble_eq_true rfl, Nat.le_of_ble_eq_true rfl⟩
theorem YL_meanLocked_ok (ok : zO) : zXok YL_meanLocked (zKl YL_meanLocked hL_meanLocked) (zQl YL_meanLocked ok) (zAl YL_meanLocked) false (fun _ => 0) 0 (fun x F => ok (some (.int x)) F) (zxk YL_meanLocked hL_meanLocked ok) := zXok_L (zCalX_one (vl := [(79, 1, 1, 6, zvs UL 8 (sLC sX8_meanLocked))]) rfl (zall (zcalX_mono (vL_meanLocked ok) (fun _ _ _ _ g => zvs_P g)) znil))
def sLd (spc : zSp) (names : List String) (ac : List Value) (F : zF) (ok : zO) : Prop := ∃ (ok' : zO) (ex' : zX) (F0 : zF), (∀ k, k < 509 → F0 k = F k) ∧ spc ac F0 ok' ex' ∧ (∀ r F', ok' r F' → ∃ a b, r = some (.double (FP.ddiv (FP.i2d a) (FP.i2d b))) ∧ ok (some (.int 0)) (zup (zup (jC F F') 520 0 a) 520 1 b)) ∧ ∀ E F', ex' E F' → E ∈ names ∧ ok (some (.int (eCd names 1 E))) (jC F F')
def sL_meanLocked : List Value → zF → zO → Prop := fun as F ok => match as with
  | [.ref 495, .ref 520] => sLd sX8_meanLocked [xR] [.ref 495] F ok
  | _ => False
theorem arrV_1 (cA : ClassId) {f g : Nat → Value} (h : f 0 = g 0) : arrV cA 1 f = arrV cA 1 g := by
  have e : (fun j : Fin 1 => f j.val) = fun j : Fin 1 => g j.val := by
    funext j
    have : j.val = 0 := by omega
    rw [this, h]
  unfold arrV
  rw [e]
/-- a number is put into the row of doubles -/
theorem zdast {Y : zM} {K : zKt} {Q : zQt} {A : zAt} (hKo : zKok Y K A) {pc j : Nat} (hd : decode (zMc Y) pc = .ok (.dastore, 1)) {ls : zL} {r : List Value} {kc ks : Nat} {F : zF} {a b : Int32} {sl : List (Option Nat)} (hj : j < (zMu Y).1) (hsh : (zMu Y).2 j = (5, 1, sl)) (h : zXW Y K Q A (pc + 1) ls r kc ks (zup (zup F j 0 a) j 1 b)) :
    zXW Y K Q A pc ls (.double (FP.ddiv (FP.i2d a) (FP.i2d b)) :: .int 0 :: .ref j :: r) kc ks F := by
  intro p l e s m args below meth c D cA ad hC H locs lsl hP hS hl hln hkc hks
  obtain ⟨⟨hx, hb, hml, hown, hts, hK, hZ, hinj, hfl⟩, hA, hAd⟩ := hKo p l e s m args below meth c D cA ad hC
  have hat := zWs_at cA (zMu Y) ad F hj
  rw [hsh] at hat
  refine va_dast hx hb hK.1 hP (zWs_D hinj hAd) hS _ 4 hat rfl vp01 hd (fun H1 locs1 hP1 _ hS1 => ?_)
  refine h p l e s m args below meth c D cA ad hC H1 locs1 lsl ?_ hS1 hl hln hkc hks
  have hlen : j < (zWs cA (zMu Y) ad F).length := by rw [zWs_len]; exact hj
  intro k q hq
  obtain ⟨hk, rfl⟩ := zWs_in hq
  by_cases hkj : k = j
  · subst hkj
    have h1 := hP1 k _ (List.getElem?_set_self hlen)
    rw [hsh]
    show H1[ad k]? = some (vp_cell cA.2.2.2.2 (1, .inr (.inr (.inr (.inl (fun _ => FP.ddiv (FP.i2d (zup (zup F k 0 a) k 1 b k 0)) (FP.i2d (zup (zup F k 0 a) k 1 b k 1))))))))
    have h2 : H1[ad k]? = some (vp_cell cA.2.2.2.2 (1, .inr (.inr (.inr (.inl (vf_upd (fun _ => FP.ddiv (FP.i2d (F k 0)) (FP.i2d (F k 1))) (0 : Int32).toNatClampNeg (FP.ddiv (FP.i2d a) (FP.i2d b)))))))) := h1
    rw [h2, zup_at, zup_an _ _ _ (by decide), zup_at, vp_cell_d, vp_cell_d]
    congr 1
  · have h1 := hP1 k (ad k, zE cA ad ((zMu Y).2 k) (F k)) (by rw [List.getElem?_set_ne (Ne.symm hkj)]; exact zWs_at cA (zMu Y) ad F hk)
    rw [zup_ne _ _ _ hkj, zup_ne _ _ _ hkj]
    exact h1
theorem mL_meanLocked : zMetL UL yL_meanLocked cL_meanLocked 3 rL_meanLocked hL_meanLocked sL_meanLocked := by
  refine zmetL (Y := YL_meanLocked) rfl (by decide +kernel) ?_
  intro av F ok h
  unfold sL_meanLocked at h
  split at h
  · obtain ⟨ok', ex', F0, h0, h1, h2, h3⟩ := h
    refine zgoX_ok (YL_meanLocked_ok ok) (inv := fun pc => match Nat.beq pc 3 with
      | true => some (zXW YL_meanLocked (zKl YL_meanLocked hL_meanLocked) (zQl YL_meanLocked ok) (zAl YL_meanLocked) 3)
      | false => none) (fun t I ht => ?_) kL_meanLocked_a (List.all_eq_true.mp kL_meanLocked_a_ok) 0 _ _ _ _ _ ?_
    · split at ht
      · rename_i he
        have := Nat.eq_of_beq_eq_true he
        subst this
        cases ht
        exact fun _ _ _ _ _ g => g
      · cases ht
    · refine vL_meanLocked ok 3 (by decide +kernel) [some (.ref 495), some (.ref 520), none] [.ref 495] [.int 0, .ref 520] 0 0 F (fun q F' => ∃ F1 a b, q = some (.double (FP.ddiv (FP.i2d a) (FP.i2d b))) ∧ F' = jC F F1 ∧ ok (some (.int 0)) (zup (zup (jC F F1) 520 0 a) 520 1 b)) rfl rfl (by decide) (by decide) (by decide) ⟨rfl, ok', ex', F0, h0, h1, fun q F' g => ?_, fun E F' g => ⟨⟨by decide +kernel, wL_meanLocked⟩, (h3 E F' g).1, (h3 E F' g).2⟩⟩ ?_
      · obtain ⟨a, b, rfl, g2⟩ := h2 q F' g
        exact ⟨F', a, b, rfl, rfl, g2⟩
      · rintro q F' ⟨F1, a, b, rfl, rfl, g⟩
        refine zdast (zKl_ok YL_meanLocked hL_meanLocked) (by decide +kernel) (by decide) (sl := []) rfl ?_
        refine zgoX_ok (YL_meanLocked_ok ok) znoX kL_meanLocked_b (List.all_eq_true.mp kL_meanLocked_b_ok) 7 _ _ _ _ _ ?_
        exact g
  · exact h.elim

theorem wT_168 : ∀ w ∈ [Cond.methodLink RL 168 yL_meanLocked, Cond.static yL_meanLocked, Cond.initialized yL_meanLocked.cls, Cond.codeWith yL_meanLocked cL_meanLocked 3 (some .int) (hL_meanLocked.map Prod.fst)], w ∈ zts := (zall (zmem 1035 (by decide +kernel) (by decide +kernel)) (zall (zmem 1036 (by decide +kernel) (by decide +kernel)) (zall (zmem 58 (by decide +kernel) (by decide +kernel)) (zall (zmem 1037 (by decide +kernel) (by decide +kernel)) znil))))
theorem vT_168 {Y : zM} (hY : zLaw Y) (L : Nat) (xs : Nat → Int32) : zCalX Y (zKw L xs) zQw zAw (fun _ => zX0) false 168 2 1 6 (fun as F ok _ => sL_meanLocked as F ok) := zcalT (y := yL_meanLocked) (cc := cL_meanLocked) (nL := 3) (rm := rL_meanLocked) (hs := hL_meanLocked) (sp := sL_meanLocked) hY mL_meanLocked 168 2 wT_168 ⟨by decide +kernel, by decide +kernel, by decide +kernel⟩ (by decide) ⟨Nat.le_of_ble_eq_true rfl, Nat.le_of_ble_eq_true rfl⟩
end ZFk
