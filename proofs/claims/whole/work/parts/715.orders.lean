/-! all orders of five -/
def dg (k i : Nat) : Nat := k / 5 ^ (4 - i) % 5
def od : List Nat := [194, 198, 214, 222, 238, 242, 294, 298, 334, 346, 358, 366, 414, 422, 434, 446, 482, 486, 538, 542, 558, 566, 582, 586, 694, 698, 714, 722, 738, 742, 894, 898, 954, 970, 978, 990, 1014, 1022, 1054, 1070, 1102, 1110, 1138, 1142, 1178, 1190, 1202, 1210, 1294, 1298, 1334, 1346, 1358, 1366, 1394, 1398, 1454, 1470, 1478, 1490, 1634, 1646, 1654, 1670, 1726, 1730, 1758, 1766, 1778, 1790, 1826, 1830, 1914, 1922, 1934, 1946, 1982, 1986, 2014, 2022, 2054, 2070, 2102, 2110, 2134, 2146, 2154, 2170, 2226, 2230, 2382, 2386, 2402, 2410, 2426, 2430, 2538, 2542, 2558, 2566, 2582, 2586, 2638, 2642, 2678, 2690, 2702, 2710, 2758, 2766, 2778, 2790, 2826, 2830, 2882, 2886, 2902, 2910, 2926, 2930]
def isP (k : Nat) : Bool := (2 ^ dg k 4 ||| 2 ^ dg k 3 ||| 2 ^ dg k 2 ||| 2 ^ dg k 1 ||| 2 ^ dg k 0) == 31
theorem od_is : (List.range 3125).filter isP = od := by decide +kernel
theorem od_len : od.length = 120 := by decide +kernel
theorem od_dg : ∀ k ∈ od, (∀ j, j < 5 → dg k j < 5) ∧ (∀ i, i < 5 → ∀ j, j < 5 → dg k i = dg k j → i = j) ∧ (∀ f, f < 5 → ∃ j, j < 5 ∧ dg k j = f) := by decide +kernel
noncomputable def y_st (P : y_P) (b : Option Nat) (k : Nat) : Option Nat := match b with
  | none => some k
  | some j => if y_T P (dg j) < y_T P (dg k) then some k else some j
noncomputable def y_code (P : y_P) (way : Nat) : Nat := if way = 1 then (od.foldl (y_st P) none).getD 194 else 194
theorem y_fold_mem (P : y_P) : ∀ (l : List Nat) (b : Option Nat), (∀ j, b = some j → j ∈ od) → (∀ k ∈ l, k ∈ od) → ∀ j, l.foldl (y_st P) b = some j → j ∈ od
  | [], b, hb, _, j, h => hb j h
  | k :: l, b, hb, hl, j, h => by
    rw [List.foldl_cons] at h
    refine y_fold_mem P l _ (fun i hi => ?_) (fun q hq => hl q (List.mem_cons_of_mem _ hq)) j h
    unfold y_st at hi
    split at hi
    · cases hi
      exact hl _ List.mem_cons_self
    · next b j' =>
      split at hi
      · cases hi
        exact hl _ List.mem_cons_self
      · cases hi
        exact hb _ rfl
theorem y_code_mem (P : y_P) (way : Nat) : y_code P way ∈ od := by
  have h0 : 194 ∈ od := by decide +kernel
  unfold y_code
  split
  · cases h : od.foldl (y_st P) none with
    | none => exact h0
    | some j => exact y_fold_mem P od none (fun _ q => by cases q) (fun _ q => q) j h
  · exact h0
