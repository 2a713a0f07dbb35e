/-! A SECOND ENGINE, for the law's own methods: any context, any end; the script (521) is read, the rows of longs and doubles too -/
section ZFa
abbrev zKt : Type := Program → Launch → Env → State → MethodId → Array Value → List Frame → Method → Code → va_G → zT → (Nat → Nat) → Prop
abbrev zQt : Type := Program → Env → State → MethodId → Array Value → List Frame → va_G → zT → (Nat → Nat) → State → Prop
abbrev zAt : Type := State → (Nat → Nat) → Nat → Prop
def zKok (Y : zM) (K : zKt) (A : zAt) : Prop := ∀ p l e s m args below meth c D cA ad, K p l e s m args below meth c D cA ad →
  (p.tables.exec = Jvm.exec ∧ c.code = zMc Y ∧ c.maxLocals = zMl Y ∧ s.vm.findClass (zMo Y) = some m.cls ∧ (∀ w ∈ zts, w.before args s = true) ∧ zK D cA s ∧ zZ (A s ad) s s.heap ∧ zinj (zMu Y) ad ∧ l.flags = flags0) ∧ (∀ q, s.heap.size ≤ q → A s ad q) ∧ ∀ k, k < (zMu Y).1 → A s ad (ad k)
def zXW (Y : zM) (K : zKt) (Q : zQt) (A : zAt) (pc : Nat) : zJ := fun ls st kc ks F =>
  ∀ (p : Program) (l : Launch) (e : Env) (s : State) (m : MethodId) (args : Array Value) (below : List Frame) (meth : Method) (c : Code) (D : va_G) (cA : zT) (ad : Nat → Nat), K p l e s m args below meth c D cA ad →
    ∀ (H : Heap) (locs : List Loc) (lsl : Array Slot), va_P D zcl (zWs cA (zMu Y) ad F) H → va_S (A s ad) s.heap H locs → lv_has lsl (zMl Y) (zll ad 0 ls) → ls.length ≤ zMl Y → kc ≤ (zMr Y).cells → ks ≤ (zMr Y).slots →
      W p l e (zMr Y) s m args below meth c H locs kc ks (Q p e s m args below D cA ad) (F0 m pc lsl (st.map (zv ad)))
def zsub : Instr → Bool
  | .iconst _ => true
  | .bipush _ => true
  | .sipush _ => true
  | .iload _ => true
  | .iload_n _ => true
  | .aload _ => true
  | .aload_n _ => true
  | .istore _ => true
  | .istore_n _ => true
  | .astore _ => true
  | .astore_n _ => true
  | .iinc _ _ => true
  | .iadd => true
  | .isub => true
  | .iand => true
  | .ifCond _ _ => true
  | .if_icmp _ _ => true
  | .goto _ => true
  | .tableswitch _ _ _ _ => true
  | _ => false
abbrev zO0 : zO := fun _ _ => False
abbrev zX0 : zX := fun _ _ => False
def zcallX (Y : zM) (xk : Nat → zX) (k : Nat → zJ) (b : Bool) (pc ix : Nat) : zJ := fun ls st kc ks F => match zMk Y b ix with
  | some (n, mc, ms, sp) => zpop n st [] fun as r => match as.all zsm && Nat.ble (zwt r) 8 with
    | true => ∃ _ : kc + mc ≤ (zMr Y).cells ∧ ks + ms ≤ (zMr Y).slots, sp as F (fun q F' => match q with
      | some v => k (pc + 3) ls (v :: r) (kc + mc) (ks + ms) F'
      | none => k (pc + 3) ls r (kc + mc) (ks + ms) F') (xk pc)
    | false => False
  | none => False
/-- what else the law's methods do -/
def zstepX (Y : zM) (sc : Bool) (xs : Nat → Int32) (L : Nat) (lf : Int32 → zF → Prop) (xk : Nat → zX) (inv : Nat → Option zJ) (k : Nat → zJ) (pc len : Nat) (i : Instr) (tg : List Nat) (v : Int32) : zJ := fun ls st kc ks F => match i with
  | .iaload => match st with
    | .int x :: .ref j :: r => ∃ _ : sc = true ∧ vp_in x L, match Nat.beq j 521 with
      | true => k (pc + len) ls (.int (xs x.toNatClampNeg) :: r) kc ks F
      | false => False
    | _ => False
  | .arraylength => match st with
    | .ref j :: r => ∃ _ : sc = true, match Nat.beq j 521 with
      | true => k (pc + len) ls (.int (Int32.ofNat L) :: r) kc ks F
      | false => False
    | _ => False
  | .i2l => match st with
    | .int x :: r => k (pc + len) ls (.long x.toInt64 :: r) kc ks F
    | _ => False
  | .i2c => match st with
    | .int x :: r => k (pc + len) ls (.int (x.toUInt32 % 65536).toInt32 :: r) kc ks F
    | _ => False
  | .laload => match st with
    | .int x :: .ref j :: r => zarr Y 4 j x fun _ => k (pc + len) ls (.long (F j x.toNatClampNeg).toInt64 :: r) kc ks F
    | _ => False
  | .lastore => match st with
    | .long y :: .int x :: .ref j :: r => zarr Y 4 j x fun _ => ∃ z, y = Int32.toInt64 z ∧ k (pc + len) ls r kc ks (zup F j x.toNatClampNeg z)
    | _ => False
  | .lcmp => match st with
    | .long y :: .long x :: r => k (pc + len) ls (.int (lg_cmp x y) :: r) kc ks F
    | _ => False
  | .ireturn => match st with
    | [.int x] => lf x F
    | _ => False
  | .invokevirtual ix => zcallX Y xk k true pc ix ls st kc ks F
  | .invokestatic ix => zcallX Y xk k false pc ix ls st kc ks F
  | _ => match zsub i with
    | true => zstep Y zO0 zX0 inv k pc len i tg v ls st kc ks F
    | false => False
def zgoX (Y : zM) (sc : Bool) (xs : Nat → Int32) (L : Nat) (lf : Int32 → zF → Prop) (xk : Nat → zX) (inv : Nat → Option zJ) : List zI → Nat → zJ
  | [], _ => fun _ _ _ _ _ => False
  | (pc, len, i, tg, v) :: rest, tgt => fun ls st kc ks F => match Nat.beq pc tgt with
    | true => match inv pc with
      | some I => I ls st kc ks F
      | none => zstepX Y sc xs L lf xk inv (zgoX Y sc xs L lf xk inv rest) pc len i tg v ls st kc ks F
    | false => zgoX Y sc xs L lf xk inv rest tgt ls st kc ks F
def zatX (Y : zM) (sc : Bool) (xs : Nat → Int32) (L : Nat) (lf : Int32 → zF → Prop) (xk : Nat → zX) (inv : Nat → Option zJ) : List zI → Nat → zJ
  | [], _ => fun _ _ _ _ _ => False
  | (pc, len, i, tg, v) :: rest, tgt => fun ls st kc ks F => match Nat.beq pc tgt with
    | true => zstepX Y sc xs L lf xk inv (zgoX Y sc xs L lf xk inv rest) pc len i tg v ls st kc ks F
    | false => zatX Y sc xs L lf xk inv rest tgt ls st kc ks F
def zCalX (Y : zM) (K : zKt) (Q : zQt) (A : zAt) (xk : Nat → zX) (b : Bool) (ix n mc ms : Nat) (sp : zSp) : Prop :=
  ∀ (pc : Nat), decode (zMc Y) pc = .ok (zinv b ix, 3) → ∀ (ls : zL) (as r : List Value) (kc ks : Nat) (F : zF) (ok' : zO), as.length = n → as.all zsm = true → zwt r ≤ 8 → kc + mc ≤ (zMr Y).cells → ks + ms ≤ (zMr Y).slots → sp as F ok' (xk pc) →
    (∀ (q : Option Value) (F' : zF), ok' q F' → zXW Y K Q A (pc + 3) ls (q.toList ++ r) (kc + mc) (ks + ms) F') → zXW Y K Q A pc ls (as.reverse ++ r) kc ks F
/-- all that is asked of a method of the law -/
def zXok (Y : zM) (K : zKt) (Q : zQt) (A : zAt) (sc : Bool) (xs : Nat → Int32) (L : Nat) (lf : Int32 → zF → Prop) (xk : Nat → zX) : Prop := zKok Y K A ∧
  (sc = true → ∀ p l e s m args below meth c D cA ad, K p l e s m args below meth c D cA ad → va_X (ad 521) L xs s s.heap ∧ ad 521 < s.heap.size ∧ ¬ A s ad (ad 521)) ∧
  (∀ pc, decode (zMc Y) pc = .ok (.ireturn, 1) → ∀ ls x kc ks F, lf x F → zXW Y K Q A pc ls [.int x] kc ks F) ∧
  ∀ b ix n mc ms sp, zMk Y b ix = some (n, mc, ms, sp) → zCalX Y K Q A xk b ix n mc ms sp
theorem zcallX_ok {Y : zM} {K : zKt} {Q : zQt} {A : zAt} {sc : Bool} {xs : Nat → Int32} {L : Nat} {lf : Int32 → zF → Prop} {xk : Nat → zX} {k : Nat → zJ} (hY : zXok Y K Q A sc xs L lf xk) (hk : ∀ t ls st kc ks F, k t ls st kc ks F → zXW Y K Q A t ls st kc ks F) {b : Bool} {pc ix : Nat} (hd : decode (zMc Y) pc = .ok (zinv b ix, 3))
    {ls : zL} {st : List Value} {kc ks : Nat} {F : zF} (h : zcallX Y xk k b pc ix ls st kc ks F) : zXW Y K Q A pc ls st kc ks F := by
  unfold zcallX at h
  split at h
  · rename_i n mc ms sp hm
    obtain ⟨as, r, h1, h2, h3⟩ := zpop_ok h
    rw [List.append_nil] at h3
    split at h3
    · rename_i hb
      simp only [Bool.and_eq_true, Nat.ble_eq] at hb
      subst h2
      obtain ⟨hcs, h3⟩ := h3
      refine hY.2.2.2 b ix n mc ms sp hm pc hd ls as r kc ks F _ h1 hb.1 hb.2 hcs.1 hcs.2 h3 (fun q F' hq => ?_)
      cases q with
      | none => exact hk _ _ _ _ _ _ hq
      | some v => exact hk _ _ _ _ _ _ hq
    · exact h3.elim
  · exact h.elim
set_option maxHeartbeats 4000000 in
theorem zstepS_ok {Y : zM} {K : zKt} {Q : zQt} {A : zAt} (hKo : zKok Y K A) {inv : Nat → Option zJ} {k : Nat → zJ} (hk : ∀ t ls st kc ks F, k t ls st kc ks F → zXW Y K Q A t ls st kc ks F)
    (hi : ∀ t I, inv t = some I → ∀ ls st kc ks F, I ls st kc ks F → zXW Y K Q A t ls st kc ks F) {pc len : Nat} {i : Instr} (hsub : zsub i = true) {tg : List Nat} {v : Int32} (hd : decode (zMc Y) pc = .ok (i, len)) (hc : zck1 pc len i tg v = true)
    {ls : zL} {st : List Value} {kc ks : Nat} {F : zF} (h : zstep Y zO0 zX0 inv k pc len i tg v ls st kc ks F) : zXW Y K Q A pc ls st kc ks F := by
  have hj : ∀ t ls st kc ks F, zjmp inv k pc t ls st kc ks F → zXW Y K Q A t ls st kc ks F := by
    intro t ls st kc ks F h
    unfold zjmp at h
    split at h
    · exact hk _ _ _ _ _ _ h
    · split at h
      · rename_i I hI
        exact hi _ _ hI _ _ _ _ _ h
      · exact h.elim
  intro p l e s m args below meth c D cA ad hC H locs lsl hP hS hl hln hkc hks
  obtain ⟨⟨hx, hb, hml, hown, hts, hK, hZ, hinj, hfl⟩, hA, hAd⟩ := hKo p l e s m args below meth c D cA ad hC
  cases i
  case iconst n =>
    simp only [zck1, Bool.and_eq_true, beq_iff_eq] at hc
    obtain ⟨rfl, rfl⟩ := hc
    exact lv_iconst hx hb hd rfl (hk _ _ _ _ _ _ h p l e s m args below meth c D cA ad hC H locs lsl hP hS hl hln hkc hks)
  case bipush n =>
    simp only [zck1, Bool.and_eq_true, beq_iff_eq] at hc
    obtain ⟨rfl, rfl⟩ := hc
    exact lv_bipush hx hb hd rfl (hk _ _ _ _ _ _ h p l e s m args below meth c D cA ad hC H locs lsl hP hS hl hln hkc hks)
  case sipush n =>
    simp only [zck1, Bool.and_eq_true, beq_iff_eq] at hc
    obtain ⟨rfl, rfl⟩ := hc
    exact lv_sipush hx hb hd rfl (hk _ _ _ _ _ _ h p l e s m args below meth c D cA ad hC H locs lsl hP hS hl hln hkc hks)
  case iload n =>
    simp only [zck1, beq_iff_eq] at hc
    subst hc
    obtain ⟨w, h1, h2⟩ := zget_ok h
    split at h2
    · exact lv_iload hx hb hd (zll_load hl h1 rfl) (hk _ _ _ _ _ _ h2 p l e s m args below meth c D cA ad hC H locs lsl hP hS hl hln hkc hks)
    · exact h2.elim
  case iload_n n =>
    simp only [zck1, beq_iff_eq] at hc
    subst hc
    obtain ⟨w, h1, h2⟩ := zget_ok h
    split at h2
    · exact lv_iload_n hx hb hd rfl (zll_load hl h1 rfl) (hk _ _ _ _ _ _ h2 p l e s m args below meth c D cA ad hC H locs lsl hP hS hl hln hkc hks)
    · exact h2.elim
  case aload n =>
    simp only [zck1, beq_iff_eq] at hc
    subst hc
    obtain ⟨w, h1, h2⟩ := zget_ok h
    split at h2
    · exact lv_aload hx hb hd (zll_load hl h1 rfl) (hk _ _ _ _ _ _ h2 p l e s m args below meth c D cA ad hC H locs lsl hP hS hl hln hkc hks)
    · exact h2.elim
  case aload_n n =>
    simp only [zck1, beq_iff_eq] at hc
    subst hc
    obtain ⟨w, h1, h2⟩ := zget_ok h
    split at h2
    · exact lv_aload_n hx hb hd rfl (zll_load hl h1 rfl) (hk _ _ _ _ _ _ h2 p l e s m args below meth c D cA ad hC H locs lsl hP hS hl hln hkc hks)
    · exact h2.elim
  case istore n =>
    simp only [zck1, beq_iff_eq] at hc
    subst hc
    simp only [zstep] at h
    split at h
    · obtain ⟨h1, h2⟩ := zset_ok h
      exact lv_istore hx hb hd hl (by omega) rfl (fun lsl' hl' => hk _ _ _ _ _ _ h2 p l e s m args below meth c D cA ad hC H locs lsl' hP hS (zll_store h1 hl') (by simpa using hln) hkc hks)
    · exact h.elim
  case istore_n n =>
    simp only [zck1, beq_iff_eq] at hc
    subst hc
    simp only [zstep] at h
    split at h
    · obtain ⟨h1, h2⟩ := zset_ok h
      exact lv_istore_n hx hb hd rfl hl (by omega) rfl (fun lsl' hl' => hk _ _ _ _ _ _ h2 p l e s m args below meth c D cA ad hC H locs lsl' hP hS (zll_store h1 hl') (by simpa using hln) hkc hks)
    · exact h.elim
  case astore n =>
    simp only [zck1, beq_iff_eq] at hc
    subst hc
    simp only [zstep] at h
    split at h
    · obtain ⟨h1, h2⟩ := zset_ok h
      exact lv_astore hx hb hd hl (by omega) rfl (fun lsl' hl' => hk _ _ _ _ _ _ h2 p l e s m args below meth c D cA ad hC H locs lsl' hP hS (zll_store h1 hl') (by simpa using hln) hkc hks)
    · exact h.elim
  case astore_n n =>
    simp only [zck1, beq_iff_eq] at hc
    subst hc
    simp only [zstep] at h
    split at h
    · obtain ⟨h1, h2⟩ := zset_ok h
      exact lv_astore_n hx hb hd rfl hl (by omega) rfl (fun lsl' hl' => hk _ _ _ _ _ _ h2 p l e s m args below meth c D cA ad hC H locs lsl' hP hS (zll_store h1 hl') (by simpa using hln) hkc hks)
    · exact h.elim
  case iinc n w =>
    simp only [zck1, Bool.and_eq_true, beq_iff_eq] at hc
    obtain ⟨rfl, rfl⟩ := hc
    obtain ⟨x, h1, h2⟩ := zget_ok h
    split at h2
    · rename_i z
      obtain ⟨h3, h4⟩ := zset_ok h2
      obtain ⟨j, hj⟩ := List.getElem?_of_mem ((zll_mem (ad := ad) ls 0 _).mpr ⟨n, .int z, h1, rfl, rfl⟩)
      rw [Nat.zero_add] at hj
      exact lv_iinc hx hb hd hl hj rfl (by omega) rfl (fun lsl' hl' => hk _ _ _ _ _ _ h4 p l e s m args below meth c D cA ad hC H locs lsl' hP hS (zll_store h3 hl') (by simpa using hln) hkc hks)
    · exact h2.elim
  case iadd =>
    simp only [zck1, beq_iff_eq] at hc
    subst hc
    simp only [zstep] at h
    split at h
    · exact lv_iadd hx hb hd (hk _ _ _ _ _ _ h p l e s m args below meth c D cA ad hC H locs lsl hP hS hl hln hkc hks)
    · exact h.elim
  case isub =>
    simp only [zck1, beq_iff_eq] at hc
    subst hc
    simp only [zstep] at h
    split at h
    · exact lv_isub hx hb hd (hk _ _ _ _ _ _ h p l e s m args below meth c D cA ad hC H locs lsl hP hS hl hln hkc hks)
    · exact h.elim
  case iand =>
    simp only [zck1, beq_iff_eq] at hc
    subst hc
    simp only [zstep] at h
    split at h
    · exact lv_iand hx hb hd (hk _ _ _ _ _ _ h p l e s m args below meth c D cA ad hC H locs lsl hP hS hl hln hkc hks)
    · exact h.elim
  case ifCond cd off =>
    simp only [zck1, Bool.and_eq_true, beq_iff_eq] at hc
    obtain ⟨rfl, hc⟩ := hc
    simp only [zstep] at h
    split at h
    · have ht := ztgt rfl hc
      cases cd
      · exact lv_if_eq hx hb hd ht (fun q => hj _ _ _ _ _ _ (h.1 q) p l e s m args below meth c D cA ad hC H locs lsl hP hS hl hln hkc hks) (fun q => hk _ _ _ _ _ _ (h.2 q) p l e s m args below meth c D cA ad hC H locs lsl hP hS hl hln hkc hks)
      · exact lv_if_ne hx hb hd ht (fun q => hj _ _ _ _ _ _ (h.1 q) p l e s m args below meth c D cA ad hC H locs lsl hP hS hl hln hkc hks) (fun q => hk _ _ _ _ _ _ (h.2 q) p l e s m args below meth c D cA ad hC H locs lsl hP hS hl hln hkc hks)
      · exact lv_if_lt hx hb hd ht (fun q => hj _ _ _ _ _ _ (h.1 q) p l e s m args below meth c D cA ad hC H locs lsl hP hS hl hln hkc hks) (fun q => hk _ _ _ _ _ _ (h.2 q) p l e s m args below meth c D cA ad hC H locs lsl hP hS hl hln hkc hks)
      · exact lv_if_ge hx hb hd ht (fun q => hj _ _ _ _ _ _ (h.1 q) p l e s m args below meth c D cA ad hC H locs lsl hP hS hl hln hkc hks) (fun q => hk _ _ _ _ _ _ (h.2 q) p l e s m args below meth c D cA ad hC H locs lsl hP hS hl hln hkc hks)
      · exact lv_if_gt hx hb hd ht (fun q => hj _ _ _ _ _ _ (h.1 q) p l e s m args below meth c D cA ad hC H locs lsl hP hS hl hln hkc hks) (fun q => hk _ _ _ _ _ _ (h.2 q) p l e s m args below meth c D cA ad hC H locs lsl hP hS hl hln hkc hks)
      · exact lv_if_le hx hb hd ht (fun q => hj _ _ _ _ _ _ (h.1 q) p l e s m args below meth c D cA ad hC H locs lsl hP hS hl hln hkc hks) (fun q => hk _ _ _ _ _ _ (h.2 q) p l e s m args below meth c D cA ad hC H locs lsl hP hS hl hln hkc hks)
    · exact h.elim
  case if_icmp cd off =>
    simp only [zck1, Bool.and_eq_true, beq_iff_eq] at hc
    obtain ⟨rfl, hc⟩ := hc
    simp only [zstep] at h
    split at h
    · have ht := ztgt rfl hc
      cases cd
      · exact lv_icmp_eq hx hb hd ht (fun q => hj _ _ _ _ _ _ (h.1 q) p l e s m args below meth c D cA ad hC H locs lsl hP hS hl hln hkc hks) (fun q => hk _ _ _ _ _ _ (h.2 q) p l e s m args below meth c D cA ad hC H locs lsl hP hS hl hln hkc hks)
      · exact lv_icmp_ne hx hb hd ht (fun q => hj _ _ _ _ _ _ (h.1 q) p l e s m args below meth c D cA ad hC H locs lsl hP hS hl hln hkc hks) (fun q => hk _ _ _ _ _ _ (h.2 q) p l e s m args below meth c D cA ad hC H locs lsl hP hS hl hln hkc hks)
      · exact lv_icmp_lt hx hb hd ht (fun q => hj _ _ _ _ _ _ (h.1 q) p l e s m args below meth c D cA ad hC H locs lsl hP hS hl hln hkc hks) (fun q => hk _ _ _ _ _ _ (h.2 q) p l e s m args below meth c D cA ad hC H locs lsl hP hS hl hln hkc hks)
      · exact lv_icmp_ge hx hb hd ht (fun q => hj _ _ _ _ _ _ (h.1 q) p l e s m args below meth c D cA ad hC H locs lsl hP hS hl hln hkc hks) (fun q => hk _ _ _ _ _ _ (h.2 q) p l e s m args below meth c D cA ad hC H locs lsl hP hS hl hln hkc hks)
      · exact lv_icmp_gt hx hb hd ht (fun q => hj _ _ _ _ _ _ (h.1 q) p l e s m args below meth c D cA ad hC H locs lsl hP hS hl hln hkc hks) (fun q => hk _ _ _ _ _ _ (h.2 q) p l e s m args below meth c D cA ad hC H locs lsl hP hS hl hln hkc hks)
      · exact lv_icmp_le hx hb hd ht (fun q => hj _ _ _ _ _ _ (h.1 q) p l e s m args below meth c D cA ad hC H locs lsl hP hS hl hln hkc hks) (fun q => hk _ _ _ _ _ _ (h.2 q) p l e s m args below meth c D cA ad hC H locs lsl hP hS hl hln hkc hks)
    · exact h.elim
  case goto off =>
    simp only [zck1, Bool.and_eq_true, beq_iff_eq] at hc
    obtain ⟨rfl, hc⟩ := hc
    simp only [zstep] at h
    split at h
    · exact lv_goto hx hb hd (ztgt rfl hc) (hj _ _ _ _ _ _ h p l e s m args below meth c D cA ad hC H locs lsl hP hS hl hln hkc hks)
    · exact h.elim
  case tableswitch dd lo hi offs =>
    simp only [zck1, Bool.and_eq_true] at hc
    obtain ⟨hc1, hc2, hc3⟩ := hc
    have hc2 := of_decide_eq_true hc2
    have hc3 := of_decide_eq_true hc3
    simp only [zstep] at h
    split at h
    · rename_i x r dt ts h9
      by_cases hin : x.toInt < lo ∨ hi < x.toInt
      · exact lv_tableOut hx hb hd hin (ztgt rfl hc1) (hj _ _ _ _ _ _ (h.2 hin) p l e s m args below meth c D cA ad hC H locs lsl hP hS hl hln hkc hks)
      · have h1 : ¬ x.toInt < lo := fun q => hin (Or.inl q)
        have h2 : ¬ hi < x.toInt := fun q => hin (Or.inr q)
        have hidx : (x.toInt - lo).toNat < offs.size := by omega
        have ho : offs[(x.toInt - lo).toNat]? = some offs[(x.toInt - lo).toNat] := Array.getElem?_eq_getElem hidx
        have hm : (offs.toList.map (fun o => (pc : Int) + o))[(x.toInt - lo).toNat]? = some ((pc : Int) + offs[(x.toInt - lo).toNat]) := by
          rw [List.getElem?_map, Array.getElem?_toList, ho]; rfl
        rw [hc2, List.getElem?_map] at hm
        cases hts' : ts[(x.toInt - lo).toNat]? with
        | none => simp [hts'] at hm
        | some t =>
          simp only [List.tail_cons, hts', Option.map_some, Option.some.injEq] at hm
          refine lv_tableIn hx hb hd h1 h2 ho hm.symm (hj _ _ _ _ _ _ (zsw_ok h.1 _ _ hts' ?_) p l e s m args below meth c D cA ad hC H locs lsl hP hS hl hln hkc hks)
          rw [show lo + ((x.toInt - lo).toNat : Int) = x.toInt by omega, Int32.ofInt_toInt]
    · exact h.elim
  all_goals exact (Bool.false_ne_true hsub).elim
set_option maxHeartbeats 4000000 in
theorem zstepX_ok {Y : zM} {K : zKt} {Q : zQt} {A : zAt} {sc : Bool} {xs : Nat → Int32} {L : Nat} {lf : Int32 → zF → Prop} {xk : Nat → zX} (hY : zXok Y K Q A sc xs L lf xk) {inv : Nat → Option zJ} {k : Nat → zJ} (hk : ∀ t ls st kc ks F, k t ls st kc ks F → zXW Y K Q A t ls st kc ks F)
    (hi : ∀ t I, inv t = some I → ∀ ls st kc ks F, I ls st kc ks F → zXW Y K Q A t ls st kc ks F) {pc len : Nat} {i : Instr} {tg : List Nat} {v : Int32} (hd : decode (zMc Y) pc = .ok (i, len)) (hc : zck1 pc len i tg v = true)
    {ls : zL} {st : List Value} {kc ks : Nat} {F : zF} (h : zstepX Y sc xs L lf xk inv k pc len i tg v ls st kc ks F) : zXW Y K Q A pc ls st kc ks F := by
  have hq : (match zsub i with
    | true => zstep Y zO0 zX0 inv k pc len i tg v ls st kc ks F
    | false => False) → zXW Y K Q A pc ls st kc ks F := by
    intro h
    split at h
    · rename_i hsub
      exact zstepS_ok hY.1 hk hi hsub hd hc h
    · exact h.elim
  cases i
  case iaload =>
    simp only [zck1, beq_iff_eq] at hc
    subst hc
    simp only [zstepX] at h
    split at h
    · rename_i x j r
      obtain ⟨⟨hsc, hin⟩, h⟩ := h
      split at h
      · rename_i he
        have := Nat.eq_of_beq_eq_true he
        subst this
        intro p l e s m args below meth c D cA ad hC H locs lsl hP hS hl hln hkc hks
        obtain ⟨⟨hx, hb, -⟩, -⟩ := hY.1 p l e s m args below meth c D cA ad hC
        obtain ⟨hX, hbl, hbA⟩ := hY.2.1 hsc p l e s m args below meth c D cA ad hC
        exact va_sld hx hb hX hbl hbA hS hin hd (hk _ _ _ _ _ _ h p l e s m args below meth c D cA ad hC H locs lsl hP hS hl hln hkc hks)
      · exact h.elim
    · exact h.elim
  case arraylength =>
    simp only [zck1, beq_iff_eq] at hc
    subst hc
    simp only [zstepX] at h
    split at h
    · rename_i j r
      obtain ⟨hsc, h⟩ := h
      split at h
      · rename_i he
        have := Nat.eq_of_beq_eq_true he
        subst this
        intro p l e s m args below meth c D cA ad hC H locs lsl hP hS hl hln hkc hks
        obtain ⟨⟨hx, hb, -⟩, -⟩ := hY.1 p l e s m args below meth c D cA ad hC
        obtain ⟨hX, hbl, hbA⟩ := hY.2.1 hsc p l e s m args below meth c D cA ad hC
        exact va_slen hx hb hX hbl hbA hS hd (hk _ _ _ _ _ _ h p l e s m args below meth c D cA ad hC H locs lsl hP hS hl hln hkc hks)
      · exact h.elim
    · exact h.elim
  case i2l =>
    simp only [zck1, beq_iff_eq] at hc
    subst hc
    simp only [zstepX] at h
    split at h
    · intro p l e s m args below meth c D cA ad hC H locs lsl hP hS hl hln hkc hks
      obtain ⟨⟨hx, hb, -⟩, -⟩ := hY.1 p l e s m args below meth c D cA ad hC
      exact lv_i2l hx hb hd rfl (hk _ _ _ _ _ _ h p l e s m args below meth c D cA ad hC H locs lsl hP hS hl hln hkc hks)
    · exact h.elim
  case i2c =>
    simp only [zck1, beq_iff_eq] at hc
    subst hc
    simp only [zstepX] at h
    split at h
    · intro p l e s m args below meth c D cA ad hC H locs lsl hP hS hl hln hkc hks
      obtain ⟨⟨hx, hb, -⟩, -⟩ := hY.1 p l e s m args below meth c D cA ad hC
      exact lv_i2c hx hb hd rfl (hk _ _ _ _ _ _ h p l e s m args below meth c D cA ad hC H locs lsl hP hS hl hln hkc hks)
    · exact h.elim
  case laload =>
    simp only [zck1, beq_iff_eq] at hc
    subst hc
    simp only [zstepX] at h
    split at h
    · rename_i x j r
      obtain ⟨n, sl, hjn, hsh, hin, h⟩ := zarr_ok h
      intro p l e s m args below meth c D cA ad hC H locs lsl hP hS hl hln hkc hks
      obtain ⟨⟨hx, hb, hml, hown, hts, hK, hZ, hinj, hfl⟩, hA, hAd⟩ := hY.1 p l e s m args below meth c D cA ad hC
      have hat := zWs_at cA (zMu Y) ad F hjn
      rw [hsh] at hat
      exact va_lald hx hb hK.1 hP _ 3 hat rfl hin hd (hk _ _ _ _ _ _ h p l e s m args below meth c D cA ad hC H locs lsl hP hS hl hln hkc hks)
    · exact h.elim
  case lastore =>
    simp only [zck1, beq_iff_eq] at hc
    subst hc
    simp only [zstepX] at h
    split at h
    · rename_i y x j r
      obtain ⟨n, sl, hjn, hsh, hin, z, hz, h9⟩ := zarr_ok h
      subst hz
      intro p l e s m args below meth c D cA ad hC H locs lsl hP hS hl hln hkc hks
      obtain ⟨⟨hx, hb, hml, hown, hts, hK, hZ, hinj, hfl⟩, hA, hAd⟩ := hY.1 p l e s m args below meth c D cA ad hC
      have hat := zWs_at cA (zMu Y) ad F hjn
      rw [hsh] at hat
      refine va_last hx hb hK.1 hP (zWs_D hinj hAd) hS _ 3 hat rfl hin hd (fun H1 locs1 hP1 _ hS1 => ?_)
      rw [zWs_set cA (zMu Y) ad F (zup F j x.toNatClampNeg z) hjn (by
        rw [hsh, zup_self]
        show _ = zE cA ad (4, n, sl) _
        refine congrArg (fun g => (Sum.inl (cA.2.2.2.1, n, .inr (.inl g)) : va_E)) ?_
        funext b
        unfold vp_updL upd
        split <;> rfl) (fun k hk => zup_ne F _ _ hk)] at hP1
      exact hk _ _ _ _ _ _ h9 p l e s m args below meth c D cA ad hC H1 locs1 lsl hP1 hS1 hl hln hkc hks
    · exact h.elim
  case lcmp =>
    simp only [zck1, beq_iff_eq] at hc
    subst hc
    simp only [zstepX] at h
    split at h
    · intro p l e s m args below meth c D cA ad hC H locs lsl hP hS hl hln hkc hks
      obtain ⟨⟨hx, hb, -⟩, -⟩ := hY.1 p l e s m args below meth c D cA ad hC
      exact W.lcmp hx hb hd (hk _ _ _ _ _ _ h p l e s m args below meth c D cA ad hC H locs lsl hP hS hl hln hkc hks)
    · exact h.elim
  case ireturn =>
    simp only [zck1, beq_iff_eq] at hc
    subst hc
    simp only [zstepX] at h
    split at h
    · exact hY.2.2.1 pc hd _ _ _ _ _ h
    · exact h.elim
  case invokevirtual ix =>
    simp only [zck1, beq_iff_eq] at hc
    subst hc
    exact zcallX_ok hY hk (b := true) hd h
  case invokestatic ix =>
    simp only [zck1, beq_iff_eq] at hc
    subst hc
    exact zcallX_ok hY hk (b := false) hd h
  all_goals exact hq h
theorem zgoX_ok {Y : zM} {K : zKt} {Q : zQt} {A : zAt} {sc : Bool} {xs : Nat → Int32} {L : Nat} {lf : Int32 → zF → Prop} {xk : Nat → zX} (hY : zXok Y K Q A sc xs L lf xk) {inv : Nat → Option zJ} (hi : ∀ t I, inv t = some I → ∀ ls st kc ks F, I ls st kc ks F → zXW Y K Q A t ls st kc ks F) :
    ∀ (code : List zI), (∀ q ∈ code, zck (zMc Y) q = true) → ∀ t ls st kc ks F, zgoX Y sc xs L lf xk inv code t ls st kc ks F → zXW Y K Q A t ls st kc ks F := by
  intro code
  induction code with
  | nil => intro _ t ls st kc ks F h; exact h.elim
  | cons q rest ih =>
    intro hq t ls st kc ks F h
    obtain ⟨pc, len, i, tg, v⟩ := q
    have hrest := ih (fun q h => hq q (List.mem_cons_of_mem _ h))
    simp only [zgoX] at h
    split at h
    · rename_i he
      have := Nat.eq_of_beq_eq_true he
      subst this
      split at h
      · rename_i I hI
        exact hi _ _ hI _ _ _ _ _ h
      · obtain ⟨hd, hc⟩ := zck_ok (hq _ List.mem_cons_self)
        exact zstepX_ok hY hrest hi hd hc h
    · exact hrest _ _ _ _ _ _ h
theorem zatX_ok {Y : zM} {K : zKt} {Q : zQt} {A : zAt} {sc : Bool} {xs : Nat → Int32} {L : Nat} {lf : Int32 → zF → Prop} {xk : Nat → zX} (hY : zXok Y K Q A sc xs L lf xk) {inv : Nat → Option zJ} (hi : ∀ t I, inv t = some I → ∀ ls st kc ks F, I ls st kc ks F → zXW Y K Q A t ls st kc ks F) :
    ∀ (code : List zI), (∀ q ∈ code, zck (zMc Y) q = true) → ∀ t ls st kc ks F, zatX Y sc xs L lf xk inv code t ls st kc ks F → zXW Y K Q A t ls st kc ks F := by
  intro code
  induction code with
  | nil => intro _ t ls st kc ks F h; exact h.elim
  | cons q rest ih =>
    intro hq t ls st kc ks F h
    obtain ⟨pc, len, i, tg, v⟩ := q
    have hrest := zgoX_ok hY hi rest (fun q h => hq q (List.mem_cons_of_mem _ h))
    simp only [zatX] at h
    split at h
    · rename_i he
      have := Nat.eq_of_beq_eq_true he
      subst this
      obtain ⟨hd, hc⟩ := zck_ok (hq _ List.mem_cons_self)
      exact zstepX_ok hY hrest hi hd hc h
    · exact ih (fun q h => hq q (List.mem_cons_of_mem _ h)) _ _ _ _ _ _ h
end ZFa
