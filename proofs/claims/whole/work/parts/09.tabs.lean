/-! the tables of fields, by class; helps for a method's own data -/
section ZT
def zlk {α : Type} : List (Nat × α) → Nat → Option α
  | [], _ => none
  | (k, v) :: r, n => match Nat.beq k n with
    | true => some v
    | false => zlk r n
theorem zlk_mem {α : Type} {l : List (Nat × α)} {n : Nat} {v : α} (h : zlk l n = some v) : (n, v) ∈ l := by
  induction l with
  | nil => cases h
  | cons q r ih =>
    obtain ⟨k, w⟩ := q
    simp only [zlk] at h
    split at h
    · rename_i hb
      have := Nat.eq_of_beq_eq_true hb
      subst this
      cases h
      exact List.mem_cons_self
    · exact List.mem_cons_of_mem _ (ih h)
def zfokb (own : String) (ix ci n w : Nat) : Bool := match zcl[ci]? with
  | some (_, T, N) => Nat.blt n N && ((decide (Cond.fieldLink own ix (T n).1 (T n).2.1 (T n).2.2.1 ∈ zts) || decide (Cond.fieldLinkNest own ix (T n).1 (T n).2.1 (T n).2.2.1 "LockMaster" ∈ znw)) && (decide (w = 1 → (T n).2.2.2 = false ∧ (T n).2.2.1 = "I") && decide (w = 2 → (T n).2.2.2 = false ∧ (T n).2.2.1 = "Z")))
  | none => false
theorem zfok_of {own : String} {ix ci n w : Nat} (h : zfokb own ix ci n w = true) : zfok own ix ci n w := by
  unfold zfokb at h
  split at h
  · rename_i C T N hc
    simp only [Bool.and_eq_true, Bool.or_eq_true] at h
    obtain ⟨h1, h2, h3, h4⟩ := h
    exact ⟨C, T, N, hc, by simpa using h1, h2.imp of_decide_eq_true of_decide_eq_true, of_decide_eq_true h3, of_decide_eq_true h4⟩
  · cases h
def zcs (vl sl : List (Nat × Nat × Nat × Nat × zSp)) : Bool → Nat → Option (Nat × Nat × Nat × zSp) := fun b => match b with
  | true => zlk vl
  | false => zlk sl
theorem zYok_of {own : String} {cc : ByteArray} {nL : Nat} {ret : Option FieldType} {rm : Room} {U : zU} {fl : List (Nat × Nat × Nat × Nat)} {vl sl : List (Nat × Nat × Nat × Nat × zSp)} (hf : fl.all (fun q => zfokb own q.1 q.2.1 q.2.2.1 q.2.2.2) = true)
    (hv : ∀ q ∈ vl, zCal (own, cc, nL, ret, rm, U, zlk fl, zcs vl sl) true q.1 q.2.1 q.2.2.1 q.2.2.2.1 q.2.2.2.2) (hs : ∀ q ∈ sl, zCal (own, cc, nL, ret, rm, U, zlk fl, zcs vl sl) false q.1 q.2.1 q.2.2.1 q.2.2.2.1 q.2.2.2.2) : zYok (own, cc, nL, ret, rm, U, zlk fl, zcs vl sl) := by
  refine ⟨fun ix ci n w h => ?_, fun b ix n mc ms sp h => ?_⟩
  · exact zfok_of (List.all_eq_true.mp hf _ (zlk_mem h))
  · cases b with
    | true => exact hv _ (zlk_mem h)
    | false => exact hs _ (zlk_mem h)
theorem zall {α : Type} {p : α → Prop} {a : α} {l : List α} (h : p a) (t : ∀ q ∈ l, p q) : ∀ q ∈ a :: l, p q := List.forall_mem_cons.mpr ⟨h, t⟩
theorem znil {α : Type} {p : α → Prop} : ∀ q ∈ ([] : List α), p q := fun _ h => nomatch h
theorem zno {Y : zM} {ok : zO} {ex : zX} : ∀ t I, zi0 t = some I → ∀ ls st kc ks F, I ls st kc ks F → zWP Y ok ex t ls st kc ks F := fun _ _ h => nomatch h
theorem zone {Y : zM} {ok : zO} {ex : zX} {h : Nat} {I : zJ} (hI : ∀ ls st kc ks F, I ls st kc ks F → zWP Y ok ex h ls st kc ks F) : ∀ t J, zi1 h I t = some J → ∀ ls st kc ks F, J ls st kc ks F → zWP Y ok ex t ls st kc ks F := by
  intro t J hJ
  unfold zi1 at hJ
  split at hJ
  · rename_i hb
    have := Nat.eq_of_beq_eq_true hb
    subst this
    cases hJ
    exact hI
  · cases hJ
theorem ztwo {Y : zM} {ok : zO} {ex : zX} {h h' : Nat} {I I' : zJ} (hI : ∀ ls st kc ks F, I ls st kc ks F → zWP Y ok ex h ls st kc ks F) (hI' : ∀ ls st kc ks F, I' ls st kc ks F → zWP Y ok ex h' ls st kc ks F) : ∀ t J, zi2 h I h' I' t = some J → ∀ ls st kc ks F, J ls st kc ks F → zWP Y ok ex t ls st kc ks F := by
  intro t J hJ
  unfold zi2 at hJ
  split at hJ
  · rename_i hb
    have := Nat.eq_of_beq_eq_true hb
    subst this
    cases hJ
    exact hI
  · split at hJ
    · rename_i hb
      have := Nat.eq_of_beq_eq_true hb
      subst this
      cases hJ
      exact hI'
    · cases hJ
theorem zleaf (ok : zO) {r r' : Option Value} {F F' : zF} (h : ok r F) (h1 : r = r') (h2 : F = F') : ok r' F' := by rw [← h1, ← h2]; exact h
theorem zleax (ex : zX) {E E' : String} {F F' : zF} (h : ex E F) (h1 : E = E') (h2 : F = F') : ex E' F' := by rw [← h1, ← h2]; exact h
end ZT
