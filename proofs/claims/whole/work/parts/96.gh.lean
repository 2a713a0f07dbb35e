/-! CONSTRUCTORS: the eight kept canals -/
section ZGh
set_option maxRecDepth 40000
/-- the list while the array fills -/
def zcB (A : Nat → Nat → Nat) (i : Nat) : List zBl := (List.range i).map fun j => (uN1, A j, gN1)
def zcW (cA : zT) (h0 qa : Nat) (A : Nat → Nat → Nat) (i : Nat) : va_W := (h0, .inr (2, [.ref qa, .int 0, .int 0])) :: (qa, .inl (cA.2.2.1, 8, .inr (.inr (.inr (.inr (fun j => if j < i then some (A j 0) else none)))))) :: zBs cA (zcB A i)
theorem zcB_s (A : Nat → Nat → Nat) (i : Nat) (ad : Nat → Nat) : zcB (fun j => if j = i then ad else A j) (i + 1) = zcB A i ++ [(uN1, ad, gN1)] := by
  unfold zcB
  rw [List.range_succ, List.map_append]
  congr 1
  · refine List.map_congr_left fun j hj => ?_
    have : j < i := List.mem_range.mp hj
    dsimp only
    rw [if_neg (by omega)]
  · show [(uN1, (if i = i then ad else A i), gN1)] = _
    rw [if_pos rfl]
theorem zcW_s (cA : zT) (h0 qa : Nat) (A : Nat → Nat → Nat) (i : Nat) (ad : Nat → Nat) : zcW cA h0 qa (fun j => if j = i then ad else A j) (i + 1) = ((zcW cA h0 qa A i) ++ zWs cA uN1 ad gN1).set 1 (qa, .inl (cA.2.2.1, 8, .inr (.inr (.inr (.inr (va_up (fun j => if j < i then some (A j 0) else none) i (some (ad 0)))))))) := by
  unfold zcW
  rw [zcB_s, zBs_sn]
  show _ :: _ :: _ = _ :: _ :: _
  congr 2
  refine congrArg (fun z => ((qa, .inl (cA.2.2.1, 8, .inr (.inr (.inr (.inr z))))) : Nat × va_E)) ?_
  funext j
  show (if j < i + 1 then some ((if j = i then ad else A j) 0) else none) = if j = i then some (ad 0) else if j < i then some (A j 0) else none
  by_cases h1 : j = i
  · rw [if_pos (by omega), if_pos h1, if_pos h1]
  · by_cases h2 : j < i
    · rw [if_pos (by omega), if_neg h1, if_neg h1, if_pos h2]
    · rw [if_neg (by omega), if_neg h1, if_neg h2]
end ZGh
