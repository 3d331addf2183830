section LCB
/-! D: sums, saturated -/
def lc_cp (x : Nat) : Nat := if x < 1000000 then x else 1000000
theorem lc_cp_le (x : Nat) : lc_cp x ≤ 1000000 := by unfold lc_cp; split <;> omega
theorem lc_cp_a (x y : Nat) : lc_cp (lc_cp x + y) = lc_cp (x + y) := by
  unfold lc_cp
  by_cases h : x < 1000000
  · rw [if_pos h]
  · rw [if_neg h, if_neg (by omega), if_neg (by omega)]
theorem lc_cp_b (x y : Nat) : lc_cp (x + lc_cp y) = lc_cp (x + y) := by
  rw [Nat.add_comm, lc_cp_a, Nat.add_comm]
theorem lc_cp_lt {x : Nat} (h : lc_cp x < 1000000) : lc_cp x = x := by
  unfold lc_cp at h ⊢
  split at h
  · rw [if_pos (by assumption)]
  · omega
theorem lc_cp_id {x : Nat} (h : x ≤ 1000000) : lc_cp x = x := by
  unfold lc_cp; split <;> omega
theorem lc_cp_0 : lc_cp 0 = 0 := rfl
/-- the sum of f over a ≤ i < k -/
def lc_S (f : Nat → Nat) (a : Nat) : Nat → Nat
  | 0 => 0
  | k + 1 => lc_S f a k + (if a ≤ k then f k else 0)
theorem lc_S_s {f : Nat → Nat} {a k : Nat} (h : a ≤ k) : lc_S f a (k + 1) = lc_S f a k + f k := by
  show lc_S f a k + (if a ≤ k then f k else 0) = _
  rw [if_pos h]
theorem lc_S_0 {f : Nat → Nat} {a : Nat} : ∀ {k : Nat}, k ≤ a → lc_S f a k = 0 := by
  intro k
  induction k with
  | zero => intro _; rfl
  | succ k ih =>
    intro h
    show lc_S f a k + (if a ≤ k then f k else 0) = 0
    rw [if_neg (by omega), ih (by omega)]
theorem lc_S_c {f g : Nat → Nat} {a : Nat} : ∀ {k : Nat}, (∀ i, a ≤ i → i < k → f i = g i) → lc_S f a k = lc_S g a k := by
  intro k
  induction k with
  | zero => intro _; rfl
  | succ k ih =>
    intro h
    show lc_S f a k + (if a ≤ k then f k else 0) = lc_S g a k + (if a ≤ k then g k else 0)
    rw [ih (fun i h1 h2 => h i h1 (by omega))]
    by_cases e : a ≤ k
    · rw [if_pos e, if_pos e, h k e (by omega)]
    · rw [if_neg e, if_neg e]
theorem lc_S_le {f : Nat → Nat} {a i : Nat} (h : a ≤ i) : ∀ {k : Nat}, i < k → f i ≤ lc_S f a k := by
  intro k
  induction k with
  | zero => intro h; omega
  | succ k ih =>
    intro hk
    show f i ≤ lc_S f a k + (if a ≤ k then f k else 0)
    by_cases e : i = k
    · subst e; rw [if_pos h]; omega
    · have := ih (by omega); omega
theorem lc_S_h {f : Nat → Nat} {a : Nat} : ∀ {k : Nat}, a < k → lc_S f a k = f a + lc_S f (a + 1) k := by
  intro k
  induction k with
  | zero => intro h; omega
  | succ k ih =>
    intro hk
    by_cases e : a = k
    · subst e
      rw [lc_S_s (Nat.le_refl a), lc_S_0 (Nat.le_refl a), lc_S_0 (Nat.le_refl (a + 1))]; omega
    · rw [lc_S_s (by omega), lc_S_s (by omega), ih (by omega)]; omega
theorem lc_S_last {f : Nat → Nat} {a k : Nat} (h : ∀ i, a ≤ i → i < k → f i = 0) (hk : a ≤ k) : lc_S f a (k + 1) = f k := by
  rw [lc_S_s hk, lc_S_c (g := fun _ => 0) h]
  have : ∀ k, lc_S (fun _ => 0) a k = 0 := by
    intro k
    induction k with
    | zero => rfl
    | succ k ih => show lc_S (fun _ => 0) a k + (if a ≤ k then 0 else 0) = 0; rw [ih]; split <;> rfl
  rw [this]; omega
/-! E: the counts -/
def lc_ix (x s e : Nat) : Nat := (x * 13 + s) * 13 + e
theorem lc_ix_i {x s e x' s' e' : Nat} (h : lc_ix x s e = lc_ix x' s' e') (hs : s < 13) (he : e < 13) (hs' : s' < 13) (he' : e' < 13) : x = x' ∧ s = s' ∧ e = e' := by
  unfold lc_ix at h; omega
theorem lc_ix_lt {x s e : Nat} (hx : x < 8) (hs : s < 13) (he : e < 13) : lc_ix x s e < 1352 := by
  unfold lc_ix; omega
def lc_va (nt tm c : Nat) : Prop := c < nt ∨ (8 ≤ c ∧ c < 8 + tm)
/-- rule r is well made -/
def lc_gr (nt tm : Nat) (q : Nat → Nat → Nat) (r : Nat) : Prop := q r 0 < nt ∧ lc_va nt tm (q r 1) ∧ ((q r 2 = 16 ∧ q r 3 = 16) ∨ (lc_va nt tm (q r 2) ∧ (q r 3 = 16 ∨ lc_va nt tm (q r 3))))
def lc_G (nt tm R : Nat) (q : Nat → Nat → Nat) : Prop := nt ≤ 8 ∧ tm ≤ 8 ∧ ∀ r, r < R → lc_gr nt tm q r
def lc_y (w : Nat → Int32) (t : Nat → Nat) (c s e : Nat) : Nat := if c < 8 then t (lc_ix c s e) else if e = s + 1 ∧ w s = nI (c - 8) then 1 else 0
/-- in how many ways the last j symbols of rule r cover [s, e) -/
def lc_w (q : Nat → Nat → Nat) (w : Nat → Int32) (t : Nat → Nat) (r : Nat) : Nat → Nat → Nat → Nat
  | 0, s, e => if s = e then 1 else 0
  | j + 1, s, e => if q r (3 - j) = 16 then lc_w q w t r j s e else lc_cp (lc_S (fun k => lc_y w t (q r (3 - j)) s k * lc_w q w t r j k e) (s + 1) (e + 1))
def lc_g (q : Nat → Nat → Nat) (w : Nat → Int32) (t : Nat → Nat) (x s e : Nat) : Nat → Nat := fun r => if q r 0 = x then lc_w q w t r 3 s e else 0
def lc_n (q : Nat → Nat → Nat) (w : Nat → Int32) (t : Nat → Nat) (R x s e : Nat) : Nat := lc_cp (lc_S (lc_g q w t x s e) 0 R)
variable {q : Nat → Nat → Nat} {w : Nat → Int32} {t t' : Nat → Nat} {nt tm R n : Nat} {rk : Nat → Nat}
theorem lc_w_0 {r s e : Nat} : lc_w q w t r 0 s e = if s = e then 1 else 0 := rfl
theorem lc_w_s {r j s e : Nat} (h : ¬ q r (3 - j) = 16) : lc_w q w t r (j + 1) s e = lc_cp (lc_S (fun k => lc_y w t (q r (3 - j)) s k * lc_w q w t r j k e) (s + 1) (e + 1)) := if_neg h
theorem lc_w_n {r j s e : Nat} (h : q r (3 - j) = 16) : lc_w q w t r (j + 1) s e = lc_w q w t r j s e := if_pos h
theorem lc_w_z {r j e : Nat} (h : ¬ q r (3 - j) = 16) : lc_w q w t r (j + 1) e e = 0 := by
  rw [lc_w_s h, lc_S_0 (Nat.le_refl _)]; rfl
theorem lc_w_le {r : Nat} : ∀ j s e, lc_w q w t r j s e ≤ 1000000 := by
  intro j
  induction j with
  | zero => intro s e; rw [lc_w_0]; split <;> omega
  | succ j ih =>
    intro s e
    by_cases h : q r (3 - j) = 16
    · rw [lc_w_n h]; exact ih s e
    · rw [lc_w_s h]; exact lc_cp_le _
theorem lc_y_le (ht : ∀ j, t j ≤ 1000000) (c s e : Nat) : lc_y w t c s e ≤ 1000000 := by
  unfold lc_y
  split
  · exact ht _
  · split <;> omega
theorem lc_n_le (x s e : Nat) : lc_n q w t R x s e ≤ 1000000 := lc_cp_le _
theorem lc_G_16 (hG : lc_G nt tm R q) {r : Nat} (hr : r < R) : ¬ q r 1 = 16 ∧ (q r 2 = 16 → q r 3 = 16) := by
  obtain ⟨h8, t8, h⟩ := hG
  obtain ⟨h0, h1, h2⟩ := h r hr
  unfold lc_va at h1 h2
  constructor
  · omega
  · intro e; omega
theorem lc_G_8 (hG : lc_G nt tm R q) {r : Nat} (hr : r < R) : ∀ p, p ≤ 3 → q r p < 8 → q r p < nt := by
  obtain ⟨h8, t8, h⟩ := hG
  obtain ⟨h0, h1, h2⟩ := h r hr
  unfold lc_va at h1 h2
  intro p hp h
  have : p = 0 ∨ p = 1 ∨ p = 2 ∨ p = 3 := by omega
  rcases this with rfl | rfl | rfl | rfl <;> omega
theorem lc_G_r (hG : lc_G nt tm R q) {r : Nat} (hr : r < R) : ∀ p, p ≤ 3 → q r p ≤ 16 := by
  obtain ⟨h8, t8, h⟩ := hG
  obtain ⟨h0, h1, h2⟩ := h r hr
  unfold lc_va at h1 h2
  intro p hp
  have : p = 0 ∨ p = 1 ∨ p = 2 ∨ p = 3 := by omega
  rcases this with rfl | rfl | rfl | rfl <;> omega
theorem lc_y_c {c s e : Nat} (h : c < 8 → t (lc_ix c s e) = t' (lc_ix c s e)) : lc_y w t c s e = lc_y w t' c s e := by
  unfold lc_y
  by_cases h8 : c < 8
  · rw [if_pos h8, if_pos h8, h h8]
  · rw [if_neg h8, if_neg h8]
theorem lc_w_c {r : Nat} (hn : ∀ p, p ≤ 3 → q r p < 8 → q r p < nt) : ∀ j s e, (∀ x a b, x < nt → s ≤ a → a < b → b ≤ e → t (lc_ix x a b) = t' (lc_ix x a b)) → lc_w q w t r j s e = lc_w q w t' r j s e := by
  intro j
  induction j with
  | zero => intro s e _; rfl
  | succ j ih =>
    intro s e h
    by_cases c : q r (3 - j) = 16
    · rw [lc_w_n c, lc_w_n c]; exact ih s e h
    · rw [lc_w_s c, lc_w_s c]
      refine congrArg lc_cp (lc_S_c ?_)
      intro k h1 h2
      show lc_y w t (q r (3 - j)) s k * lc_w q w t r j k e = lc_y w t' (q r (3 - j)) s k * lc_w q w t' r j k e
      rw [lc_y_c (fun h8 => h _ s k (hn _ (by omega) h8) (by omega) (by omega) (by omega)), ih k e (fun x a b h3 h4 h5 h6 => h x a b h3 (by omega) h5 h6)]
theorem lc_w3_c (hG : lc_G nt tm R q) {r : Nat} (hr : r < R) {s e : Nat} (h : ∀ x a b, x < nt → s ≤ a → a < b → b ≤ e → b - a < e - s → t (lc_ix x a b) = t' (lc_ix x a b)) (hu : q r 1 < 8 → q r 2 = 16 → t (lc_ix (q r 1) s e) = t' (lc_ix (q r 1) s e)) : lc_w q w t r 3 s e = lc_w q w t' r 3 s e := by
  have hn := lc_G_8 hG hr
  have h16 := (lc_G_16 hG hr).1
  rw [lc_w_s (j := 2) h16, lc_w_s (j := 2) h16]
  refine congrArg lc_cp (lc_S_c ?_)
  intro k h1 h2
  show lc_y w t (q r 1) s k * lc_w q w t r 2 k e = lc_y w t' (q r 1) s k * lc_w q w t' r 2 k e
  by_cases hk : k < e
  · rw [lc_y_c (fun h8 => h _ s k (hn 1 (by omega) h8) (by omega) (by omega) (by omega) (by omega)), lc_w_c hn 2 k e (fun x a b h3 h4 h5 h6 => h x a b h3 (by omega) h5 h6 (by omega))]
  · obtain rfl : k = e := by omega
    by_cases h2 : q r 2 = 16
    · rw [lc_y_c (fun h8 => hu h8 h2), lc_w_c hn 2 k k (fun x a b h3 h4 h5 h6 => by omega)]
    · rw [lc_w_z (j := 1) h2, lc_w_z (j := 1) h2, Nat.mul_zero, Nat.mul_zero]
theorem lc_n_c {x s e : Nat} (h : ∀ r, r < R → q r 0 = x → lc_w q w t r 3 s e = lc_w q w t' r 3 s e) : lc_n q w t R x s e = lc_n q w t' R x s e := by
  refine congrArg lc_cp (lc_S_c ?_)
  intro r _ hr
  unfold lc_g
  by_cases hx : q r 0 = x
  · rw [if_pos hx, if_pos hx, h r hr hx]
  · rw [if_neg hx, if_neg hx]
/-- the cell's count is what the rules ask -/
def lc_ok (q : Nat → Nat → Nat) (w : Nat → Int32) (R : Nat) (t : Nat → Nat) (x s e : Nat) : Prop := t (lc_ix x s e) = lc_n q w t R x s e
theorem lc_n_up (hG : lc_G nt tm R q) (hA : lc_A R q rk) {x s e x' s' e' v : Nat} (he : e < 13) (hs : s < e) (he' : e' < 13) (hs' : s' < e') (h1 : e' - s' ≤ e - s) (h2 : s' = s → e' = e → rk x' ≤ rk x) : lc_n q w (lc_up t (lc_ix x s e) v) R x' s' e' = lc_n q w t R x' s' e' := by
  refine lc_n_c ?_
  intro r hr hx
  refine lc_w3_c hG hr ?_ ?_
  · intro y a b hy ha hab hb hl
    refine lc_up_n ?_
    intro z
    obtain ⟨-, z2, z3⟩ := lc_ix_i z (by omega) (by omega) (by omega) (by omega)
    omega
  · intro h8 h16
    refine lc_up_n ?_
    intro z
    obtain ⟨z1, z2, z3⟩ := lc_ix_i z (by omega) (by omega) (by omega) (by omega)
    have := hA r hr h8 h16
    have := h2 z2 z3
    rw [z1, hx] at *
    omega
theorem lc_ok_w (hG : lc_G nt tm R q) (hA : lc_A R q rk) {x s e : Nat} (he : e < 13) (hs : s < e) : lc_ok q w R (lc_up t (lc_ix x s e) (lc_n q w t R x s e)) x s e := by
  unfold lc_ok
  rw [lc_n_up hG hA he hs he hs (Nat.le_refl _) (fun _ _ => Nat.le_refl _), lc_up_s]
theorem lc_ok_k (hG : lc_G nt tm R q) (hA : lc_A R q rk) {x s e x' s' e' v : Nat} (he : e < 13) (hs : s < e) (he' : e' < 13) (hs' : s' < e') (h1 : e' - s' ≤ e - s) (h2 : s' = s → e' = e → rk x' ≤ rk x ∧ x' ≠ x) (h : lc_ok q w R t x' s' e') : lc_ok q w R (lc_up t (lc_ix x s e) v) x' s' e' := by
  unfold lc_ok
  rw [lc_n_up hG hA he hs he' hs' h1 (fun a b => (h2 a b).1), lc_up_n]
  · exact h
  · intro z
    obtain ⟨z1, z2, z3⟩ := lc_ix_i z (by omega) (by omega) (by omega) (by omega)
    exact (h2 z2 z3).2 z1
theorem lc_ok_s {x s e : Nat} (h : lc_ok q w R t x s e) : lc_up t (lc_ix x s e) (lc_n q w t R x s e) = t := by
  funext j
  unfold lc_up
  split
  · subst_vars; exact h.symm
  · rfl
def lc_sat (q : Nat → Nat → Nat) (w : Nat → Int32) (R nt n : Nat) (t : Nat → Nat) : Prop := ∀ x s e, x < nt → s < e → e ≤ n → lc_ok q w R t x s e
theorem lc_uq (hG : lc_G nt tm R q) (hA : lc_A R q rk) (h : lc_sat q w R nt n t) (h' : lc_sat q w R nt n t') : ∀ x s e, x < nt → s < e → e ≤ n → t (lc_ix x s e) = t' (lc_ix x s e) := by
  have H : ∀ L k x s e, e - s = L → rk x = k → x < nt → s < e → e ≤ n → t (lc_ix x s e) = t' (lc_ix x s e) := by
    intro L
    induction L using Nat.strongRecOn with
    | ind L ihL =>
      intro k
      induction k using Nat.strongRecOn with
      | ind k ihk =>
        intro x s e hL hk hx hs he
        rw [h x s e hx hs he, h' x s e hx hs he]
        refine lc_n_c ?_
        intro r hr hx0
        refine lc_w3_c hG hr ?_ ?_
        · intro y a b hy ha hab hb hl
          exact ihL (b - a) (by omega) (rk y) y a b rfl rfl hy hab (by omega)
        · intro h8 h16
          have h1 := hA r hr h8 h16
          have h2 := lc_G_8 hG hr 1 (by omega) h8
          exact ihk (rk (q r 1)) (by rw [← hk, ← hx0]; exact h1) (q r 1) s e hL rfl h2 hs he
  intro x s e
  exact H _ _ x s e rfl rfl
/-! F: the counts as Y has them -/
theorem lc_w_e {r j : Nat} (h : ∀ i, i < j → q r (3 - i) = 16) : ∀ s e, lc_w q w t r j s e = if s = e then 1 else 0 := by
  induction j with
  | zero => intro s e; rfl
  | succ j ih =>
    intro s e
    rw [lc_w_n (h j (by omega))]
    exact ih (fun i hi => h i (by omega)) s e
/-- one symbol is left -/
theorem lc_w_l {r j s e : Nat} (ht : ∀ j, t j ≤ 1000000) (h : ∀ i, i < j → q r (3 - i) = 16) (hj : ¬ q r (3 - j) = 16) (hs : s < e) : lc_w q w t r (j + 1) s e = lc_y w t (q r (3 - j)) s e := by
  rw [lc_w_s hj, lc_S_last]
  · rw [lc_w_e h, if_pos rfl, Nat.mul_one, lc_cp_id (lc_y_le ht _ _ _)]
  · intro i h1 h2
    rw [lc_w_e h, if_neg (by omega), Nat.mul_zero]
  · omega
/-- more than one symbol is left -/
theorem lc_w_m {r j s e : Nat} (hj : ¬ q r (3 - (j + 1)) = 16) (hj' : ¬ q r (3 - j) = 16) (hs : s < e) : lc_w q w t r (j + 1 + 1) s e = lc_cp (lc_S (fun k => lc_y w t (q r (3 - (j + 1))) s k * lc_w q w t r (j + 1) k e) (s + 1) e) := by
  rw [lc_w_s hj, lc_S_s (by omega)]
  show lc_cp (_ + lc_y w t (q r (3 - (j + 1))) s e * lc_w q w t r (j + 1) e e) = _
  rw [lc_w_z hj', Nat.mul_zero, Nat.add_zero]
end LCB
