/-! zgo IS SOUND: what it asks for makes the machine come to the method's end -/
section ZSa
def zll (ad : Nat → Nat) : Nat → zL → List (Nat × Value)
  | _, [] => []
  | i, some (.int z) :: r => (i, .int z) :: zll ad (i + 1) r
  | i, some (.ref z) :: r => (i, .ref (ad z)) :: zll ad (i + 1) r
  | i, some .null :: r => (i, .null) :: zll ad (i + 1) r
  | i, _ :: r => zll ad (i + 1) r
theorem zll_mem {ad : Nat → Nat} (ls : zL) : ∀ (b : Nat) (q : Nat × Value), q ∈ zll ad b ls ↔ ∃ n v, znth ls n = some (some v) ∧ zsm v = true ∧ q = (b + n, zv ad v) := by
  induction ls with
  | nil =>
    intro b q
    constructor
    · intro h; cases h
    · rintro ⟨n, v, h, -⟩; cases n <;> cases h
  | cons o r ih =>
    intro b q
    have step : (∃ n v, znth (o :: r) n = some (some v) ∧ zsm v = true ∧ q = (b + n, zv ad v)) ↔ (∃ v, o = some v ∧ zsm v = true ∧ q = (b, zv ad v)) ∨ ∃ n v, znth r n = some (some v) ∧ zsm v = true ∧ q = (b + 1 + n, zv ad v) := by
      constructor
      · rintro ⟨n, v, h1, h2, h3⟩
        cases n with
        | zero => exact Or.inl ⟨v, Option.some.inj h1, h2, h3⟩
        | succ n => exact Or.inr ⟨n, v, h1, h2, by rw [h3]; congr 1; omega⟩
      · rintro (⟨v, h1, h2, h3⟩ | ⟨n, v, h1, h2, h3⟩)
        · exact ⟨0, v, by rw [h1]; rfl, h2, h3⟩
        · exact ⟨n + 1, v, h1, h2, by rw [h3]; congr 1; omega⟩
    rw [step, ← ih (b + 1) q]
    cases o with
    | none => simp [zll]
    | some v => cases v <;> simp [zll, zsm, zv]
theorem zget_ok {ls : zL} {n : Nat} {k : Value → Prop} (h : zget ls n k) : ∃ v, znth ls n = some (some v) ∧ k v := by
  induction ls generalizing n with
  | nil => cases n <;> exact h.elim
  | cons o r ih =>
    cases n with
    | zero => cases o with
      | none => exact h.elim
      | some v => exact ⟨v, rfl, h⟩
    | succ n => cases o <;> exact ih h
theorem zset_ok {ls : zL} {n : Nat} {v : Value} {k : zL → Prop} (h : zset ls n v k) : n < ls.length ∧ k (ls.set n (some v)) := by
  induction ls generalizing n k with
  | nil => cases n <;> exact h.elim
  | cons o r ih =>
    cases n with
    | zero => exact ⟨by simp, h⟩
    | succ n =>
      obtain ⟨h1, h2⟩ := ih (k := fun r' => k (o :: r')) h
      exact ⟨by simp; omega, h2⟩
theorem zpop_ok {n : Nat} {st acc : List Value} {k : List Value → List Value → Prop} (h : zpop n st acc k) : ∃ as r, as.length = n ∧ st = as.reverse ++ r ∧ k (as ++ acc) r := by
  induction n generalizing st acc with
  | zero => exact ⟨[], st, rfl, rfl, h⟩
  | succ n ih => cases st with
    | nil => exact h.elim
    | cons v st =>
      obtain ⟨as, r, h1, h2, h3⟩ := ih (st := st) (acc := v :: acc) h
      exact ⟨as ++ [v], r, by simp [h1], by simp [h2], by simpa using h3⟩
theorem zll_load {ad : Nat → Nat} {ls : zL} {lsl : Array Slot} {nL n : Nat} {v : Value} (h : lv_has lsl nL (zll ad 0 ls)) (hn : znth ls n = some (some v)) (hv : zsm v = true) : lsl[n]? = some (.val (zv ad v)) := by
  have := h.2.2 (n, zv ad v) ((zll_mem ls 0 _).mpr ⟨n, v, hn, hv, by simp⟩)
  exact this
theorem zll_store {ad : Nat → Nat} {ls : zL} {ls' : Array Slot} {nL n : Nat} {v : Value} (hn : n < ls.length)
    (h : lv_has ls' nL ((n, zv ad v) :: (zll ad 0 ls).filter (fun q => !(q.1 == n) && !(q.1 + 1 == n && q.2.category == 2)))) : lv_has ls' nL (zll ad 0 (ls.set n (some v))) := by
  refine ⟨h.1, h.2.1, fun q hq => h.2.2 q ?_⟩
  obtain ⟨j, w, h1, h2, h3⟩ := (zll_mem _ 0 q).mp hq
  rw [Nat.zero_add] at h3
  rw [znth_eq] at h1
  by_cases hj : n = j
  · subst hj
    rw [List.getElem?_set_self hn] at h1
    rw [h3, Option.some.inj (Option.some.inj h1)]
    exact List.mem_cons_self
  · rw [List.getElem?_set_ne hj, ← znth_eq] at h1
    refine List.mem_cons_of_mem _ (List.mem_filter.mpr ⟨(zll_mem ls 0 q).mpr ⟨j, w, h1, h2, by rw [h3]; simp⟩, ?_⟩)
    rw [h3]
    cases w <;> simp_all [zsm, zv, Value.category, Ne.symm]
    all_goals exact fun z => hj z.symm
theorem zwt_cat (ad : Nat → Nat) (st : List Value) : ((st.map (zv ad)).map fun v => v.category).sum = zwt st := by
  induction st with
  | nil => rfl
  | cons v r ih => cases v <;> simp [zwt, zw1, zv, Value.category, ← ih]
def zCtx (Y : zM) (p : Program) (l : Launch) (s : State) (m : MethodId) (args : Array Value) (meth : Method) (c : Code) (D : va_G) (cA : zT) (ad : Nat → Nat) : Prop :=
  p.tables.exec = Jvm.exec ∧ c.code = zMc Y ∧ meth.sig.returnType = zMt Y ∧ c.maxLocals = zMl Y ∧ s.vm.findClass (zMo Y) = some m.cls ∧ (∀ w ∈ zts, w.before args s = true) ∧ meth.locks = false ∧ (∀ x ∈ c.exceptionTable.toList, False) ∧ zK D cA s ∧ zZ (zA (zMu Y) ad s.heap.size) s s.heap ∧ zinj (zMu Y) ad ∧ l.flags = flags0
/-- from here the method comes to an end of which ok (it returned) or ex (it threw) holds: in every state of the machine that stands so -/
def zWP (Y : zM) (ok : zO) (ex : zX) (pc : Nat) : zJ := fun ls st kc ks F =>
  ∀ (p : Program) (l : Launch) (e : Env) (s : State) (m : MethodId) (args : Array Value) (below : List Frame) (meth : Method) (c : Code) (D : va_G) (cA : zT) (ad : Nat → Nat), zCtx Y p l s m args meth c D cA ad →
    ∀ (H : Heap) (locs : List Loc) (lsl : Array Slot), va_P D zcl (zWs cA (zMu Y) ad F) H → va_S (zA (zMu Y) ad s.heap.size) s.heap H locs → lv_has lsl (zMl Y) (zll ad 0 ls) → ls.length ≤ zMl Y → kc ≤ (zMr Y).cells → ks ≤ (zMr Y).slots →
      W p l e (zMr Y) s m args below meth c H locs kc ks (vx_MQ below (zQ D cA (zMu Y) ad ok (zA (zMu Y) ad s.heap.size)) (zQx D cA (zMu Y) ad ex (zA (zMu Y) ad s.heap.size)) args s (zMr Y).cells (zMr Y).slots (zA (zMu Y) ad s.heap.size)) (F0 m pc lsl (st.map (zv ad)))
def zinv (b : Bool) (ix : Nat) : Instr := match b with
  | true => .invokevirtual ix
  | false => .invokestatic ix
def zCal (Y : zM) (b : Bool) (ix n mc ms : Nat) (sp : zSp) : Prop :=
  ∀ (pc : Nat), decode (zMc Y) pc = .ok (zinv b ix, 3) → ∀ (ok : zO) (ex : zX) (ls : zL) (as r : List Value) (kc ks : Nat) (F : zF) (ok' : zO), as.length = n → as.all zsm = true → zwt r ≤ 8 → kc + mc ≤ (zMr Y).cells → ks + ms ≤ (zMr Y).slots → sp as F ok' ex →
    (∀ (q : Option Value) (F' : zF), ok' q F' → zWP Y ok ex (pc + 3) ls (q.toList ++ r) (kc + mc) (ks + ms) F') → zWP Y ok ex pc ls (as.reverse ++ r) kc ks F
def zfok (own : String) (ix ci n w : Nat) : Prop := ∃ (C : String) (T : u_T) (N : Nat), zcl[ci]? = some (C, T, N) ∧ n < N ∧
  (Cond.fieldLink own ix (T n).1 (T n).2.1 (T n).2.2.1 ∈ zts ∨ Cond.fieldLinkNest own ix (T n).1 (T n).2.1 (T n).2.2.1 "LockMaster" ∈ znw) ∧
  (w = 1 → (T n).2.2.2 = false ∧ (T n).2.2.1 = "I") ∧ (w = 2 → (T n).2.2.2 = false ∧ (T n).2.2.1 = "Z")
def zYok (Y : zM) : Prop := (∀ ix ci n w, zMf Y ix = some (ci, n, w) → zfok (zMo Y) ix ci n w) ∧ ∀ b ix n mc ms sp, zMk Y b ix = some (n, mc, ms, sp) → zCal Y b ix n mc ms sp
def zclok (q : vw_C) : Prop := (∀ w ∈ u_ws q.1 q.2.1 q.2.2, w ∈ zts) ∧ ∃ ty : Nat → FieldType, (∀ k, k < q.2.2 → parseFieldDescriptor (q.2.1 k).2.2.1 = some (ty k)) ∧ ∀ a, a < q.2.2 → ∀ b, b < q.2.2 → a ≠ b → (q.2.1 a).2.1 ≠ (q.2.1 b).2.1
set_option maxRecDepth 20000 in
theorem zcl_ok : ∀ q ∈ zcl, zclok q := by
  intro q hq
  simp only [zcl, List.mem_cons, List.not_mem_nil, or_false] at hq
  rcases hq with rfl | rfl | rfl | rfl | rfl | rfl | rfl | rfl | rfl | rfl
  · exact ⟨by decide +kernel, tyX0, tyX0_ok, nmX0⟩
  · exact ⟨by decide +kernel, tyX1, tyX1_ok, nmX1⟩
  · exact ⟨by decide +kernel, tyX2, tyX2_ok, nmX2⟩
  · exact ⟨by decide +kernel, tyX3, tyX3_ok, nmX3⟩
  · exact ⟨by decide +kernel, tyX4, tyX4_ok, nmX4⟩
  · exact ⟨by decide +kernel, tyX5, tyX5_ok, nmX5⟩
  · exact ⟨by decide +kernel, tyX6, tyX6_ok, nmX6⟩
  · exact ⟨by decide +kernel, tyX7, tyX7_ok, nmX7⟩
  · exact ⟨by decide +kernel, tyX8, tyX8_ok, nmX8⟩
  · exact ⟨by decide +kernel, tyX9, tyX9_ok, nmX9⟩
theorem zfld_ok {Y : zM} {j ix : Nat} {k : Nat → Nat → Option Nat → Prop} (h : zfld Y j ix k) : ∃ ci sl n w o, j < (zMu Y).1 ∧ (zMu Y).2 j = (0, ci, sl) ∧ zMf Y ix = some (ci, n, w) ∧ znth sl n = some o ∧ k n w o := by
  unfold zfld at h
  split at h
  · rename_i hj
    split at h
    · rename_i ci sl ci' n w hs hf
      split at h
      · rename_i he
        split at h
        · rename_i o ho
          have := Nat.eq_of_beq_eq_true he
          subst this
          exact ⟨ci, sl, n, w, o, by simpa using hj, hs, hf, ho, h⟩
        · exact h.elim
      · exact h.elim
    · exact h.elim
  · exact h.elim
theorem zarr_ok {Y : zM} {t j : Nat} {i : Int32} {k : Nat → Prop} (h : zarr Y t j i k) : ∃ n sl, j < (zMu Y).1 ∧ (zMu Y).2 j = (t, n, sl) ∧ vp_in i n ∧ k n := by
  unfold zarr at h
  split at h
  · rename_i hj
    split at h
    rename_i t' n sl hs
    split at h
    · rename_i he
      have := Nat.eq_of_beq_eq_true he
      subst this
      obtain ⟨h1, h2⟩ := h
      exact ⟨n, sl, by simpa using hj, hs, h1, h2⟩
    · exact h.elim
  · exact h.elim
theorem zsw_ok {x : Int32} {j : Nat → Prop} {ts : List Nat} {n : Int} (h : zsw x j n ts) : ∀ (i t : Nat), ts[i]? = some t → x = Int32.ofInt (n + i) → j t := by
  induction ts generalizing n with
  | nil => intro i t h1; simp at h1
  | cons a r ih =>
    intro i t h1 h2
    cases i with
    | zero =>
      simp at h1 h2
      subst h1
      exact h.1 h2
    | succ i =>
      refine ih h.2 i t (by simpa using h1) ?_
      rw [h2]
      congr 1
      omega
end ZSa
