/-! PURE: the text: runs of bytes, words as numbers -/
def rnn (P : Int32 → Bool) (t : Nat → Int32) (N : Nat) : Nat → Nat → Nat
  | 0, p => p
  | f + 1, p => if P (t p) = true then rnn P t N f (p + 1) else p
/-- the end of the run of P from p on -/
def xR1 (P : Int32 → Bool) (t : Nat → Int32) (N p : Nat) : Nat := rnn P t N (N - p) p
theorem xR1_ge {P : Int32 → Bool} {t : Nat → Int32} {N p : Nat} (h : N ≤ p) : xR1 P t N p = p := by
  unfold xR1
  rw [show N - p = 0 by omega]
  rfl
theorem xR1_lt {P : Int32 → Bool} {t : Nat → Int32} {N p : Nat} (h : p < N) : xR1 P t N p = if P (t p) = true then xR1 P t N (p + 1) else p := by
  unfold xR1
  rw [show N - p = (N - (p + 1)) + 1 by omega, rnn]
theorem xR1_in {P : Int32 → Bool} {t : Nat → Int32} {N : Nat} : ∀ d p, p + d = N → p ≤ xR1 P t N p ∧ xR1 P t N p ≤ N ∧ (xR1 P t N p < N → ¬ P (t (xR1 P t N p)) = true) ∧ ∀ i, p ≤ i → i < xR1 P t N p → P (t i) = true
  | 0, p, h => by
    rw [xR1_ge (by omega)]
    exact ⟨Nat.le_refl _, by omega, fun q => by omega, fun i h1 h2 => by omega⟩
  | d + 1, p, h => by
    rw [xR1_lt (by omega)]
    by_cases q : P (t p) = true
    · rw [if_pos q]
      obtain ⟨h1, h2, h3, h4⟩ := xR1_in (P := P) (t := t) (N := N) d (p + 1) (by omega)
      refine ⟨by omega, h2, h3, fun i h5 h6 => ?_⟩
      by_cases e : i = p
      · rw [e]
        exact q
      · exact h4 i (by omega) h6
    · rw [if_neg q]
      exact ⟨Nat.le_refl _, by omega, fun _ => q, fun i h1 h2 => by omega⟩
def cSp (x : Int32) : Bool := decide (x = 32)
def cLe (x : Int32) : Bool := decide (p_in x 97 122)
def cFi (x : Int32) : Bool := decide (p_in x 48 57)
/-- letters of a word, the last first -/
def wl (t : Nat → Int32) (q : Nat) : Nat → List Nat
  | 0 => []
  | k + 1 => ((t (q + k)).toNatClampNeg - 96) :: wl t q k
def vr : List Nat → Nat
  | [] => 0
  | d :: l => 27 * vr l + d
theorem vr_inj : ∀ {l m : List Nat}, (∀ d ∈ l, 1 ≤ d ∧ d ≤ 26) → (∀ d ∈ m, 1 ≤ d ∧ d ≤ 26) → vr l = vr m → l = m
  | [], [], _, _, _ => rfl
  | [], d :: m, _, h2, h => by
    have := h2 d List.mem_cons_self
    rw [vr, vr] at h
    omega
  | d :: l, [], h1, _, h => by
    have := h1 d List.mem_cons_self
    rw [vr, vr] at h
    omega
  | d :: l, e :: m, h1, h2, h => by
    have q1 := h1 d List.mem_cons_self
    have q2 := h2 e List.mem_cons_self
    rw [vr, vr] at h
    have e1 : d = e := by omega
    have e2 : vr l = vr m := by omega
    rw [e1, vr_inj (fun x hx => h1 x (List.mem_cons_of_mem _ hx)) (fun x hx => h2 x (List.mem_cons_of_mem _ hx)) e2]
theorem wl_len (t : Nat → Int32) (q : Nat) : ∀ k, (wl t q k).length = k
  | 0 => rfl
  | k + 1 => by rw [wl, List.length_cons, wl_len t q k]
theorem wl_in {t : Nat → Int32} {q : Nat} : ∀ k, (∀ i, q ≤ i → i < q + k → cLe (t i) = true) → ∀ d ∈ wl t q k, 1 ≤ d ∧ d ≤ 26
  | 0, _, d, hd => by cases hd
  | k + 1, h, d, hd => by
    rw [wl] at hd
    rcases List.mem_cons.mp hd with e | e
    · have h1 := of_decide_eq_true (h (q + k) (by omega) (by omega))
      have h2 := p_cl (x := t (q + k)) (b := 122) ⟨by have := h1.1; omega, h1.2⟩
      have := h1.1
      have := h1.2
      omega
    · exact wl_in k (fun i h1 h2 => h i h1 (by omega)) d e
theorem wl_cg {t u : Nat → Int32} {q p : Nat} : ∀ k, (∀ i, i < k → t (q + i) = u (p + i)) → wl t q k = wl u p k
  | 0, _ => rfl
  | k + 1, h => by rw [wl, wl, h k (by omega), wl_cg k (fun i hi => h i (by omega))]
/-- the reference's number of a word, which stops growing -/
def sv (t : Nat → Int32) (q : Nat) : Nat → Nat
  | 0 => 0
  | k + 1 => if sv t q k ≤ 1000000000000 then 27 * sv t q k + ((t (q + k)).toNatClampNeg - 96) else 2000000000000
theorem vr_bd : ∀ {l : List Nat}, (∀ d ∈ l, 1 ≤ d ∧ d ≤ 26) → vr l < 27 ^ l.length ∧ 27 ^ l.length ≤ 27 * vr l + 1
  | [], _ => by decide
  | d :: l, h => by
    have h1 := h d List.mem_cons_self
    have h2 := vr_bd (fun x hx => h x (List.mem_cons_of_mem _ hx))
    rw [vr, List.length_cons, Nat.pow_succ]
    generalize 27 ^ l.length = P at *
    omega
theorem sv_vr {t : Nat → Int32} {q : Nat} : ∀ k, k ≤ 8 → (∀ i, q ≤ i → i < q + k → cLe (t i) = true) → sv t q k = vr (wl t q k)
  | 0, _, _ => rfl
  | k + 1, hk, h => by
    have h1 := sv_vr k (by omega) (fun i q1 q2 => h i q1 (by omega))
    have h2 := (vr_bd (wl_in k (fun i q1 q2 => h i q1 (by omega)))).1
    rw [wl_len] at h2
    have h3 : 27 ^ k ≤ 27 ^ 7 := Nat.pow_le_pow_right (by decide) (by omega)
    have h4 : (27 : Nat) ^ 7 = 10460353203 := by decide
    have h5 : sv t q k ≤ 1000000000000 := by
      rw [h1]
      omega
    rw [sv, wl, vr, if_pos h5, h1]
theorem sv_big {t : Nat → Int32} {q : Nat} : ∀ k, 8 ≤ k → (∀ i, q ≤ i → i < q + k → cLe (t i) = true) → 10000000000 ≤ sv t q k
  | 0, h, _ => by omega
  | k + 1, hk, h => by
    by_cases e : k + 1 = 8
    · have h1 := sv_vr (t := t) (q := q) (k + 1) (by omega) h
      have h2 := (vr_bd (wl_in (k + 1) h)).2
      rw [wl_len, e] at h2
      rw [h1, e]
      have : (27 : Nat) ^ 8 = 282429536481 := by decide
      omega
    · have h1 := sv_big k (by omega) (fun i q1 q2 => h i q1 (by omega))
      rw [sv]
      split <;> omega
theorem sv_le (t : Nat → Int32) (q : Nat) (ht : ∀ i, (t i).toNatClampNeg ≤ 1000) : ∀ k, sv t q k ≤ 27000000001000
  | 0 => by rw [sv]; omega
  | k + 1 => by
    have := ht (q + k)
    rw [sv]
    split <;> omega
/-- which of the numbers -/
def ki : List Nat → Nat → Nat → Int32
  | [], _, _ => -1
  | c :: cs, i, v => if v = c then nI i else ki cs (i + 1) v
def wcs (tb : Nat) : List Nat := ([[9746155, 692581, 3379448, 31519426, 6411708, 335207579, 85447, 6477035, 375035, 1903978], [453632, 365666, 8689376, 10133239, 279346, 236061329, 158692, 94195], [380068, 2585642951, 1627332], [8536420, 6411708, 280906452]] : List (List Nat)).getD tb []
/-- the tables: each word's letters, then a blank -/
theorem tb_ok : ∀ tb, tb < 4 → (wcs tb).length * 8 = z_len.getD tb 0 ∧ ∀ i, i < (wcs tb).length → ∃ m, m < 8 ∧ (∀ j, j < m → cLe (z_ch tb (8 * i + j)) = true) ∧ z_ch tb (8 * i + m) = 32 ∧ vr (wl (z_ch tb) (8 * i) m) = (wcs tb).getD i 0 := by decide +kernel
theorem tb_small : ∀ tb, tb < 4 → ∀ c ∈ wcs tb, c < 10000000000 := by decide +kernel
