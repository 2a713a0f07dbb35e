/-! THE LAW'S WORLD: the LockMaster's cells (0 to 508), the reference's (509 to 518), the row of longs (519), the row of doubles (520) -/
section ZFc
set_option maxRecDepth 20000
def UL : zU := (521, fun k => match Nat.blt k 509 with
  | true => ULM.2 k
  | false => match Nat.blt k 519 with
    | true => zren (fun j => 509 + j) (UM.2 (k - 509))
    | false => match Nat.beq k 519 with
      | true => (4, 1, [])
      | false => (5, 1, []))
theorem zren_id (q : zS) : zren (fun k => k) q = q := by
  obtain ⟨a, b, l⟩ := q
  unfold zren
  have : l.map (Option.map fun k => k) = l := by
    induction l with
    | nil => rfl
    | cons o r ih => rw [List.map_cons, ih]; cases o <;> rfl
  rw [this]
theorem zv_jd (v : Value) : zv (fun k => k) v = v := by cases v <;> rfl
theorem zemb_UC : zemb ULM UL (fun k => k) := by
  refine ⟨fun k hk => ?_, fun i j _ _ e => e, fun k hk => ?_⟩
  · have hk : k < 509 := hk
    show k < 521
    omega
  · have hk : k < 509 := hk
    rw [zren_id]
    show (match Nat.blt k 509 with
      | true => ULM.2 k
      | false => _) = ULM.2 k
    have e : Nat.blt k 509 = true := by simpa using hk
    rw [e]
theorem zemb_UM : zemb UM UL (fun j => 509 + j) := by
  have h : ∀ k, k < 10 → UL.2 (509 + k) = zren (fun j => 509 + j) (UM.2 k) := by decide +kernel
  refine ⟨fun k hk => ?_, fun i j _ _ e => ?_, h⟩
  · have hk : k < 10 := hk
    show 509 + k < 521
    omega
  · have e : 509 + i = 509 + j := e
    omega
def jC (F F' : zF) : zF := fun k => if k < 509 then F' k else F k
def jM (F F' : zF) : zF := fun k => if k < 509 then F k else if k < 519 then F' (k - 509) else F k
theorem jC_spl (F F' : zF) : zspl ULM (fun k => k) F F' (jC F F') := by
  refine ⟨fun k hk => if_pos hk, fun j hj => ?_⟩
  by_cases h : j < 509
  · exact absurd rfl (hj j h)
  · exact if_neg h
theorem jM_spl (F F' : zF) : zspl UM (fun j => 509 + j) F F' (jM F F') := by
  refine ⟨fun k hk => ?_, fun j hj => ?_⟩
  · have hk : k < 10 := hk
    unfold jM
    show (if 509 + k < 509 then F (509 + k) else if 509 + k < 519 then F' (509 + k - 509) else F (509 + k)) = F' k
    rw [if_neg (by omega), if_pos (by omega), show 509 + k - 509 = k by omega]
  · unfold jM
    by_cases h : j < 509
    · rw [if_pos h]
    · by_cases h2 : j < 519
      · have h3 := hj (j - 509) (show j - 509 < 10 by omega)
        exact absurd (show 509 + (j - 509) = j by omega) h3
      · rw [if_neg h, if_neg h2]
/-- a call of the class, or of the reference, in the law's world -/
def sLC (sp : zSp) : zSp := fun as F ok ex => ∃ (ok' : zO) (ex' : zX) (F0 : zF), (∀ k, k < 509 → F0 k = F k) ∧ sp as F0 ok' ex' ∧ (∀ q F', ok' q F' → ok q (jC F F')) ∧ ∀ E F', ex' E F' → ex E (jC F F')
def sLM (sp : zSp) : zSp := fun as F ok ex => ∃ (as' : List Value) (ok' : zO) (ex' : zX) (F0 : zF), (∀ k, k < 10 → F0 k = F (509 + k)) ∧ as = as'.map (zv fun j => 509 + j) ∧ sp as' F0 ok' ex' ∧ (∀ q F', ok' q F' → ok (q.map (zv fun j => 509 + j)) (jM F F')) ∧ ∀ E F', ex' E F' → ex E (jM F F')
theorem zWs_ext {cA : zT} {U : zU} {ad : Nat → Nat} {F G : zF} (h : ∀ k, k < U.1 → G k = F k) : zWs cA U ad G = zWs cA U ad F := by
  unfold zWs
  refine List.map_congr_left fun k hk => ?_
  rw [h k (List.mem_range.mp hk)]
theorem zmet_ext {U : zU} {y : MethodName} {cc : ByteArray} {nL : Nat} {ret : Option FieldType} {rm : Room} {sp : zSp} (hM : zMet U y cc nL ret rm sp) : zMet U y cc nL ret rm (fun as F ok ex => ∃ F0 : zF, (∀ k, k < U.1 → F0 k = F k) ∧ sp as F0 ok ex) := by
  intro l hfl D cA ad F sz av ok ex hsp hinj hall hlen
  obtain ⟨F0, h1, h2⟩ := hsp
  have h3 : zB D cA U ad F0 sz = zB D cA U ad F sz := by
    unfold zB
    rw [zWs_ext h1]
  have h4 := hM l hfl D cA ad F0 sz av ok ex h2 hinj hall hlen
  rw [h3] at h4
  exact h4
theorem zliftC {y : MethodName} {cc : ByteArray} {nL : Nat} {ret : Option FieldType} {rm : Room} {sp : zSp} (hM : zMet ULM y cc nL ret rm sp) : zMet UL y cc nL ret rm (sLC sp) := by
  refine zlift (zmet_ext hM) ?_
  rintro as F ok ex ⟨ok', ex', F0, h0, h1, h2, h3⟩
  refine ⟨fun k => k, as, ok', ex', zemb_UC, ?_, ⟨F0, h0, h1⟩, fun q F' g => ⟨jC F F', jC_spl F F', ?_⟩, fun E F' g => ⟨jC F F', jC_spl F F', h3 E F' g⟩⟩
  · have : as.map (zv fun k => k) = as := by
      induction as with
      | nil => rfl
      | cons v r ih => rw [List.map_cons, zv_jd]; congr 1; clear ih h1; induction r with
        | nil => rfl
        | cons w t ih2 => rw [List.map_cons, zv_jd, ih2]
    exact this.symm
  · have : q.map (zv fun k => k) = q := by
      cases q with
      | none => rfl
      | some v => exact congrArg some (zv_jd v)
    rw [this]
    exact h2 q F' g
theorem zliftM {y : MethodName} {cc : ByteArray} {nL : Nat} {ret : Option FieldType} {rm : Room} {sp : zSp} (hM : zMet UM y cc nL ret rm sp) : zMet UL y cc nL ret rm (sLM sp) := by
  refine zlift (zmet_ext hM) ?_
  rintro as F ok ex ⟨as', ok', ex', F0, h9, h0, h1, h2, h3⟩
  exact ⟨fun j => 509 + j, as', ok', ex', zemb_UM, h0, ⟨F0, h9, h1⟩, fun q F' g => ⟨jM F F', jM_spl F F', h2 q F' g⟩, fun E F' g => ⟨jM F F', jM_spl F F', h3 E F' g⟩⟩
/-- what a wrapper says: out of what the class's call says -/
def sLl (spc : zSp) (names : List String) (ac : List Value) (F : zF) (ok : zO) : Prop := ∃ (ok' : zO) (ex' : zX) (F0 : zF), (∀ k, k < 509 → F0 k = F k) ∧ spc ac F0 ok' ex' ∧ (∀ r F', ok' r F' → ∃ v, r = some (.int v) ∧ ok (some (.int 0)) (zup (jC F F') 519 0 v)) ∧ ∀ E F', ex' E F' → E ∈ names ∧ ok (some (.int (eCd names 1 E))) (jC F F')
def sLv (spc : zSp) (names : List String) (ac : List Value) (F : zF) (ok : zO) : Prop := ∃ (ok' : zO) (ex' : zX) (F0 : zF), (∀ k, k < 509 → F0 k = F k) ∧ spc ac F0 ok' ex' ∧ (∀ r F', ok' r F' → r = none ∧ ok (some (.int 0)) (jC F F')) ∧ ∀ E F', ex' E F' → E ∈ names ∧ ok (some (.int (eCd names 1 E))) (jC F F')
theorem zXok_L {Y : zM} {hs : List zHd} {ok : zO} (h : ∀ b ix n mc ms sp, zMk Y b ix = some (n, mc, ms, sp) → zCalX Y (zKl Y hs) (zQl Y ok) (zAl Y) (zxk Y hs ok) b ix n mc ms sp) : zXok Y (zKl Y hs) (zQl Y ok) (zAl Y) false (fun _ => 0) 0 (fun x F => ok (some (.int x)) F) (zxk Y hs ok) :=
  ⟨zKl_ok Y hs, fun h => (nomatch h), fun pc hd ls x kc ks F h => zretL pc hd ls x kc ks F h, h⟩
theorem zCalX_one {Y : zM} {K : zKt} {Q : zQt} {A : zAt} {xk : Nat → zX} {vl : List (Nat × Nat × Nat × Nat × zSp)} (hY : zMk Y = zcs vl []) (h : ∀ q ∈ vl, zCalX Y K Q A xk true q.1 q.2.1 q.2.2.1 q.2.2.2.1 q.2.2.2.2) : ∀ b ix n mc ms sp, zMk Y b ix = some (n, mc, ms, sp) → zCalX Y K Q A xk b ix n mc ms sp := by
  intro b ix n mc ms sp h9
  rw [hY] at h9
  cases b with
  | true => exact h _ (zlk_mem h9)
  | false => exact nomatch h9
theorem zcalX_mono {Y : zM} {K : zKt} {Q : zQt} {A : zAt} {xk : Nat → zX} {b : Bool} {ix n mc ms : Nat} {sp sp2 : zSp} (h : zCalX Y K Q A xk b ix n mc ms sp) (h2 : ∀ as F ok ex, sp2 as F ok ex → sp as F ok ex) : zCalX Y K Q A xk b ix n mc ms sp2 :=
  fun pc hd ls as r kc ks F ok' h3 h4 h5 h6 h7 h8 h9 => h pc hd ls as r kc ks F ok' h3 h4 h5 h6 h7 (h2 _ _ _ _ h8) h9
theorem znoX {Y : zM} {K : zKt} {Q : zQt} {A : zAt} : ∀ t I, zi0 t = some I → ∀ ls st kc ks F, I ls st kc ks F → zXW Y K Q A t ls st kc ks F := fun _ _ h => nomatch h
theorem vp01 : vp_in (0 : Int32) 1 := vp_in_nI (n := 0) (by decide) (by decide)
theorem zhq_xI : Cond.classLink RL 21 xI ∈ zts ∧ Cond.castable xI xI ∈ znw := ⟨zmem 561 (by decide +kernel) (by decide +kernel), List.mem_filter.mpr ⟨List.mem_of_getElem? (i := 594) (by decide +kernel), rfl⟩⟩
theorem zhq_xA : Cond.classLink RL 13 xA ∈ zts ∧ Cond.castable xA xA ∈ znw := ⟨zmem 426 (by decide +kernel) (by decide +kernel), List.mem_filter.mpr ⟨List.mem_of_getElem? (i := 440) (by decide +kernel), rfl⟩⟩
theorem zhq_xS : Cond.classLink RL 15 xS ∈ zts ∧ Cond.castable xS xS ∈ znw := ⟨zmem 427 (by decide +kernel) (by decide +kernel), List.mem_filter.mpr ⟨List.mem_of_getElem? (i := 515) (by decide +kernel), rfl⟩⟩
theorem zhq_xE : Cond.classLink RL 53 xE ∈ zts ∧ Cond.castable xE xE ∈ znw := ⟨zmem 803 (by decide +kernel) (by decide +kernel), List.mem_filter.mpr ⟨List.mem_of_getElem? (i := 813) (by decide +kernel), rfl⟩⟩
theorem zhq_xU : Cond.classLink RL 33 xU ∈ zts ∧ Cond.castable xU xU ∈ znw := ⟨zmem 669 (by decide +kernel) (by decide +kernel), List.mem_filter.mpr ⟨List.mem_of_getElem? (i := 684) (by decide +kernel), rfl⟩⟩
theorem zhq_xR : Cond.classLink RL 83 xR ∈ zts ∧ Cond.castable xR xR ∈ znw := ⟨zmem 1038 (by decide +kernel) (by decide +kernel), List.mem_filter.mpr ⟨List.mem_of_getElem? (i := 1050) (by decide +kernel), rfl⟩⟩
end ZFc
