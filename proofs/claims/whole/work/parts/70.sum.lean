/-! PURE, over Nat alone: sums, the sharing of a fund, levels, a fund paid out, an order paid out -/
def sm : Nat → (Nat → Nat) → Nat
  | 0, _ => 0
  | n + 1, f => sm n f + f n
theorem sm_cg {f g : Nat → Nat} : ∀ {n : Nat}, (∀ c, c < n → f c = g c) → sm n f = sm n g
  | 0, _ => rfl
  | n + 1, h => by rw [sm, sm, sm_cg (n := n) (fun c hc => h c (by omega)), h n (by omega)]
theorem sm_le {f g : Nat → Nat} : ∀ {n : Nat}, (∀ c, c < n → f c ≤ g c) → sm n f ≤ sm n g
  | 0, _ => Nat.le_refl _
  | n + 1, h => by
    have := sm_le (n := n) (f := f) (g := g) (fun c hc => h c (by omega))
    have := h n (by omega)
    rw [sm, sm]
    omega
theorem sm_0 : ∀ {f : Nat → Nat} {n : Nat}, (∀ c, c < n → f c = 0) → sm n f = 0
  | _, 0, _ => rfl
  | f, n + 1, h => by rw [sm, sm_0 (n := n) (fun c hc => h c (by omega)), h n (by omega)]
theorem sm_z {f : Nat → Nat} : ∀ {n : Nat}, sm n f = 0 → ∀ c, c < n → f c = 0
  | 0, _, c, hc => by omega
  | n + 1, h, c, hc => by
    rw [sm] at h
    by_cases e : c = n
    · rw [e]
      omega
    · exact sm_z (n := n) (by omega) c (by omega)
theorem sm_add (f g : Nat → Nat) : ∀ n : Nat, sm n (fun c => f c + g c) = sm n f + sm n g
  | 0 => rfl
  | n + 1 => by
    rw [sm, sm, sm, sm_add f g n]
    omega
theorem sm_mul (k : Nat) (f : Nat → Nat) : ∀ n : Nat, sm n (fun c => k * f c) = k * sm n f
  | 0 => rfl
  | n + 1 => by rw [sm, sm, sm_mul k f n, Nat.mul_add]
theorem sm_one {f : Nat → Nat} : ∀ {n : Nat} {c : Nat}, c < n → f c ≤ sm n f
  | 0, c, h => by omega
  | n + 1, c, h => by
    rw [sm]
    by_cases e : c = n
    · rw [e]
      omega
    · have := sm_one (f := f) (n := n) (c := c) (by omega)
      omega
theorem sm_gap {f : Nat → Nat} {a : Nat} : ∀ {b : Nat}, a ≤ b → (∀ c, a ≤ c → c < b → f c = 0) → sm b f = sm a f
  | 0, h, _ => by rw [show a = 0 by omega]
  | b + 1, h, q => by
    by_cases e : a = b + 1
    · rw [e]
    · rw [sm, sm_gap (b := b) (by omega) (fun c h1 h2 => q c h1 (by omega)), q b (by omega) (by omega)]
      rfl
theorem sm_mono (f : Nat → Nat) {a : Nat} : ∀ {b : Nat}, a ≤ b → sm a f ≤ sm b f
  | 0, h => by rw [show a = 0 by omega]; exact Nat.le_refl _
  | b + 1, h => by
    by_cases e : a = b + 1
    · rw [e]
      exact Nat.le_refl _
    · have := sm_mono f (a := a) (b := b) (by omega)
      rw [sm]
      omega
theorem sm_up {f : Nat → Nat} {n c : Nat} (h : c < n) : sm n f = sm n (fun e => if e = c then 0 else f e) + f c := by
  induction n with
  | zero => omega
  | succ n ih =>
    rw [sm, sm]
    by_cases e : c = n
    · subst e
      rw [if_pos rfl, sm_cg (f := f) (g := fun e => if e = c then 0 else f e) (n := c) (fun d hd => by rw [if_neg (by omega)])]
      omega
    · rw [if_neg (fun q => e q.symm), ih (by omega)]
      omega
/-- the same sum in another order -/
theorem sm_perm {N : Nat} (L : Nat → Nat) : ∀ {n : Nat} {h : Nat → Nat}, (∀ i, i < n → L i < N) → (∀ i j, i < n → j < n → L i = L j → i = j) → (∀ c, c < N → h c ≠ 0 → ∃ i, i < n ∧ L i = c) → sm n (fun i => h (L i)) = sm N h
  | 0, h, _, _, h3 => by
    rw [sm_0 (f := h) (n := N)]
    · rfl
    · intro c hc
      rcases Nat.eq_zero_or_pos (h c) with e | e
      · exact e
      · obtain ⟨i, hi, _⟩ := h3 c hc (by omega)
        omega
  | n + 1, h, h1, h2, h3 => by
    have key := sm_perm (N := N) L (n := n) (h := fun e => if e = L n then 0 else h e) (fun i hi => h1 i (by omega)) (fun i j hi hj => h2 i j (by omega) (by omega)) (fun c hc hq => by
      by_cases e : c = L n
      · exact absurd (if_pos e) hq
      · rw [if_neg e] at hq
        obtain ⟨i, hi, ei⟩ := h3 c hc hq
        refine ⟨i, ?_, ei⟩
        by_cases e2 : i = n
        · exact absurd (by rw [← ei, e2]) e
        · omega)
    rw [sm, sm_up (f := h) (h1 n (by omega)), ← key]
    congr 1
    apply sm_cg
    intro i hi
    rw [if_neg (fun q => by have := h2 i n (by omega) (by omega) q; omega)]
/-- sums along a rising row of numbers -/
theorem sm_rise {N a b : Nat} (g : Nat → Nat) (h : Nat → Nat) (hr : ∀ i, a ≤ i → i + 1 < b → g i < g (i + 1)) (hN : ∀ i, a ≤ i → i < b → g i < N) (hs : ∀ c, c < N → h c ≠ 0 → ∃ i, a ≤ i ∧ i < b ∧ g i = c) : ∀ j, a + j < b → sm j (fun i => h (g (a + i))) = sm (g (a + j)) h := by
  have mono : ∀ d i, a ≤ i → i + d < b → g i ≤ g (i + d) := by
    intro d
    induction d with
    | zero => intro i _ _; exact Nat.le_refl _
    | succ d ih =>
      intro i h1 h2
      have := ih i h1 (by omega)
      have := hr (i + d) (by omega) (by omega)
      rw [show i + (d + 1) = i + d + 1 by omega]
      omega
  intro j
  induction j with
  | zero =>
    intro hj
    rw [sm, sm_0]
    intro c hc
    rcases Nat.eq_zero_or_pos (h c) with e | e
    · exact e
    · obtain ⟨i, h1, h2, h3⟩ := hs c (by have := hN a (by omega) (by omega); rw [Nat.add_zero] at hc; omega) (by omega)
      have := mono (i - a) a (by omega) (by omega)
      rw [show a + (i - a) = i by omega] at this
      rw [Nat.add_zero] at hc
      omega
  | succ j ih =>
    intro hj
    rw [sm, ih (by omega)]
    have h1 := hr (a + j) (by omega) (by omega)
    have e : sm (g (a + (j + 1))) h = sm (g (a + j) + 1) h := by
      apply sm_gap
      · rw [show a + (j + 1) = a + j + 1 by omega]
        omega
      · intro c q1 q2
        rcases Nat.eq_zero_or_pos (h c) with e | e
        · exact e
        · obtain ⟨i, i1, i2, i3⟩ := hs c (by have := hN (a + (j + 1)) (by omega) (by omega); omega) (by omega)
          rcases Nat.lt_or_ge (a + j) i with q | q
          · have := mono (i - (a + j + 1)) (a + j + 1) (by omega) (by omega)
            rw [show a + j + 1 + (i - (a + j + 1)) = i by omega] at this
            rw [show a + (j + 1) = a + j + 1 by omega] at q2
            omega
          · have := mono (a + j - i) i (by omega) (by omega)
            rw [show i + (a + j - i) = a + j by omega] at this
            omega
    rw [e, sm]
theorem sm_riseN {N a b : Nat} (hab : a < b) (g : Nat → Nat) (h : Nat → Nat) (hr : ∀ i, a ≤ i → i + 1 < b → g i < g (i + 1)) (hN : ∀ i, a ≤ i → i < b → g i < N) (hs : ∀ c, c < N → h c ≠ 0 → ∃ i, a ≤ i ∧ i < b ∧ g i = c) : sm (b - a) (fun i => h (g (a + i))) = sm N h := by
  have inj : ∀ d i, a ≤ i → i + (d + 1) < b → g i < g (i + (d + 1)) := by
    intro d
    induction d with
    | zero => intro i h1 h2; exact hr i h1 (by omega)
    | succ d ih =>
      intro i h1 h2
      have := ih i h1 (by omega)
      have := hr (i + (d + 1)) (by omega) (by omega)
      rw [show i + (d + 1 + 1) = i + (d + 1) + 1 by omega]
      omega
  refine sm_perm (N := N) (fun i => g (a + i)) (fun i hi => hN _ (by omega) (by omega)) (fun i j hi hj e => ?_) (fun c hc q => ?_)
  · rcases Nat.lt_trichotomy i j with q | q | q
    · have := inj (j - i - 1) (a + i) (by omega) (by omega)
      rw [show a + i + (j - i - 1 + 1) = a + j by omega] at this
      exact absurd e (by show ¬ g (a + i) = g (a + j); omega)
    · exact q
    · have := inj (i - j - 1) (a + j) (by omega) (by omega)
      rw [show a + j + (i - j - 1 + 1) = a + i by omega] at this
      exact absurd e (by show ¬ g (a + i) = g (a + j); omega)
  · obtain ⟨i, h1, h2, h3⟩ := hs c hc q
    exact ⟨i - a, by omega, by show g (a + (i - a)) = c; rw [show a + (i - a) = i by omega]; exact h3⟩
/-! sharing -/
def sh_q (r W : Nat) (w : Nat → Nat) (c : Nat) : Nat := r * w c / W
def sh_o (r N : Nat) (w : Nat → Nat) : Nat := r - sm N (sh_q r (sm N w) w)
def sh_1 (w : Nat → Nat) (c : Nat) : Nat := if 0 < w c then 1 else 0
def sh (r N : Nat) (w : Nat → Nat) (c : Nat) : Nat := if sm N w ≤ r then w c else sh_q r (sm N w) w c + (if 0 < w c ∧ sm c (sh_1 w) < sh_o r N w then 1 else 0)
def sh_r (r N : Nat) (w : Nat → Nat) : Nat := if sm N w ≤ r then r - sm N w else 0
theorem sh_qle (r : Nat) (w : Nat → Nat) {N : Nat} (W : Nat) (hW : 0 < W) : W * sm N (sh_q r W w) ≤ r * sm N w := by
  rw [← sm_mul W (sh_q r W w) N, ← sm_mul r w N]
  exact sm_le (fun c _ => Nat.mul_div_le _ _)
theorem sh_qge (r : Nat) (w : Nat → Nat) {N : Nat} (W : Nat) (hW : 0 < W) : r * sm N w ≤ W * sm N (sh_q r W w) + (W - 1) * sm N (sh_1 w) := by
  rw [← sm_mul W (sh_q r W w) N, ← sm_mul r w N, ← sm_mul (W - 1) (sh_1 w) N, ← sm_add]
  refine sm_le (fun c _ => ?_)
  unfold sh_q sh_1
  have h := Nat.div_add_mod (r * w c) W
  have h2 := Nat.mod_lt (r * w c) hW
  by_cases e : 0 < w c
  · rw [if_pos e]
    omega
  · rw [if_neg e, show w c = 0 by omega]
    simp
theorem sh_oq {r N : Nat} {w : Nat → Nat} (h : r < sm N w) : sm N (sh_q r (sm N w) w) + sh_o r N w = r := by
  have h1 := sh_qle r w (N := N) (sm N w) (by omega)
  have h2 : sm N (sh_q r (sm N w) w) ≤ r := by
    rw [Nat.mul_comm r] at h1
    exact Nat.le_of_mul_le_mul_left h1 (by omega)
  unfold sh_o
  omega
theorem sh_ok {r N : Nat} {w : Nat → Nat} (h : r < sm N w) : sh_o r N w ≤ sm N (sh_1 w) := by
  have h1 := sh_qge r w (N := N) (sm N w) (by omega)
  have h2 := sh_oq h
  generalize sm N (sh_q r (sm N w) w) = Q at *
  generalize sh_o r N w = o at *
  generalize sm N (sh_1 w) = k at *
  generalize sm N w = W at *
  rcases Nat.lt_or_ge k o with q | q
  · exfalso
    have h3 : r * W = Q * W + o * W := by rw [← h2, Nat.add_mul]
    have h4 : (W - 1) * k ≤ (W - 1) * o := Nat.mul_le_mul_left _ (by omega)
    have h5 : (W - 1) * o + o = W * o := by
      obtain ⟨V, rfl⟩ : ∃ V, W = V + 1 := ⟨W - 1, by omega⟩
      rw [Nat.add_sub_cancel, Nat.succ_mul]
    have h6 : (W - 1) * k + (W - 1) ≤ (W - 1) * o := by
      have := Nat.mul_le_mul_left (W - 1) (show k + 1 ≤ o by omega)
      rw [Nat.mul_succ] at this
      exact this
    rw [Nat.mul_comm Q, Nat.mul_comm o] at h3
    omega
  · exact q
/-- so many of the first that want: as many as are over -/
theorem sh_cnt (w : Nat → Nat) (o : Nat) : ∀ N, sm N (fun c => if 0 < w c ∧ sm c (sh_1 w) < o then 1 else 0) = min o (sm N (sh_1 w))
  | 0 => by rw [sm, sm]; omega
  | N + 1 => by
    rw [sm, sm, sh_cnt w o N]
    show _ + (if 0 < w N ∧ sm N (sh_1 w) < o then 1 else 0) = min o (sm N (sh_1 w) + (if 0 < w N then 1 else 0))
    by_cases e : 0 < w N
    · rw [if_pos e]
      by_cases e2 : sm N (sh_1 w) < o
      · rw [if_pos ⟨e, e2⟩]
        omega
      · rw [if_neg (fun q => e2 q.2)]
        omega
    · rw [if_neg e, if_neg (fun q => e q.1)]
      omega
theorem sh_sum (r N : Nat) (w : Nat → Nat) : sm N (sh r N w) + sh_r r N w = r := by
  unfold sh_r
  by_cases h : sm N w ≤ r
  · rw [if_pos h, sm_cg (f := sh r N w) (g := w) (fun c _ => if_pos h)]
    omega
  · rw [if_neg h, sm_cg (f := sh r N w) (g := fun c => sh_q r (sm N w) w c + (if 0 < w c ∧ sm c (sh_1 w) < sh_o r N w then 1 else 0)) (fun c _ => if_neg h), sm_add, sh_cnt]
    have h1 := sh_ok (r := r) (N := N) (w := w) (by omega)
    have h2 := sh_oq (r := r) (N := N) (w := w) (by omega)
    omega
theorem sh_le (r N : Nat) (w : Nat → Nat) (c : Nat) : sh r N w c ≤ w c := by
  unfold sh
  by_cases h : sm N w ≤ r
  · rw [if_pos h]
    exact Nat.le_refl _
  · rw [if_neg h]
    by_cases e : 0 < w c
    · have : sh_q r (sm N w) w c < w c := by
        unfold sh_q
        rw [Nat.div_lt_iff_lt_mul (by omega), Nat.mul_comm (w c)]
        exact Nat.mul_lt_mul_of_pos_right (by omega) e
      split <;> omega
    · rw [if_neg (fun q => e q.1)]
      unfold sh_q
      rw [show w c = 0 by omega, Nat.mul_zero, Nat.zero_div]
      omega
theorem sh_z (r N : Nat) (w : Nat → Nat) {c : Nat} (h : w c = 0) : sh r N w c = 0 := by
  have := sh_le r N w c
  omega
theorem sh_r_le (r N : Nat) (w : Nat → Nat) : sh_r r N w ≤ r := by
  have := sh_sum r N w
  omega
theorem sh_W0 {r N : Nat} {w : Nat → Nat} (h : sm N w = 0) : sh_r r N w = r := by
  unfold sh_r
  rw [h, if_pos (by omega)]
  omega
theorem sh_r0 {N : Nat} {w : Nat → Nat} : sh_r 0 N w = 0 := by
  have := sh_r_le 0 N w
  omega
theorem sh_0 {N : Nat} {w : Nat → Nat} {c : Nat} (hc : c < N) : sh 0 N w c = 0 := by
  have h := sh_sum 0 N w
  exact sm_z (f := sh 0 N w) (n := N) (by omega) c hc
