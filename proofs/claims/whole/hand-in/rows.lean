section
section LCA
/-! A: counting, sets of codes, the closure -/
/-- how many i below n are in S -/
def lc_cn (S : Nat → Bool) : Nat → Nat
  | 0 => 0
  | n + 1 => lc_cn S n + (if S n = true then 1 else 0)
theorem lc_cn_s (S : Nat → Bool) (n : Nat) : lc_cn S (n + 1) = lc_cn S n + (if S n = true then 1 else 0) := rfl
theorem lc_cn_le (S : Nat → Bool) (n : Nat) : lc_cn S n ≤ n := by
  induction n with
  | zero => exact Nat.le_refl 0
  | succ n ih => rw [lc_cn_s]; split <;> omega
theorem lc_cn_mono {S S' : Nat → Bool} (h : ∀ i, S i = true → S' i = true) (n : Nat) : lc_cn S n ≤ lc_cn S' n := by
  induction n with
  | zero => exact Nat.le_refl 0
  | succ n ih =>
    rw [lc_cn_s, lc_cn_s]
    by_cases h1 : S n = true
    · rw [if_pos h1, if_pos (h n h1)]; omega
    · rw [if_neg h1]; omega
theorem lc_cn_lt {S S' : Nat → Bool} (h : ∀ i, S i = true → S' i = true) {n i : Nat} (hi : i < n) (h1 : ¬ S i = true) (h2 : S' i = true) : lc_cn S n < lc_cn S' n := by
  induction n with
  | zero => omega
  | succ n ih =>
    rw [lc_cn_s, lc_cn_s]
    by_cases e : i = n
    · subst e
      rw [if_neg h1, if_pos h2]
      have := lc_cn_mono h i
      omega
    · have := ih (by omega)
      by_cases h3 : S n = true
      · rw [if_pos h3, if_pos (h n h3)]; omega
      · rw [if_neg h3]; omega
theorem lc_cn_pos {S : Nat → Bool} {n i : Nat} (hi : i < n) (h : S i = true) : 1 ≤ lc_cn S n := by
  have e : lc_cn (fun _ => false) n = 0 := by
    clear hi
    induction n with
    | zero => rfl
    | succ n ih => rw [lc_cn_s, ih]; rfl
  have := lc_cn_lt (S := fun _ => false) (S' := S) (fun i h => by cases h) hi (by simp) h
  omega
/-- the rule r takes part: all rules, or (u) the unit rules alone -/
def lc_ca (u : Bool) (q : Nat → Nat → Nat) (r : Nat) : Prop := u = true → q r 1 < 8 ∧ q r 2 = 16
def lc_st (u : Bool) (q : Nat → Nat → Nat) (r : Nat) (S : Nat → Bool) : Nat → Bool :=
  fun i => S i || (S (q r 0) && ((!u || (decide (q r 1 < 8) && decide (q r 2 = 16))) && decide (i = q r 1)))
def lc_ps (u : Bool) (q : Nat → Nat → Nat) : Nat → (Nat → Bool) → (Nat → Bool)
  | 0, S => S
  | r + 1, S => lc_st u q r (lc_ps u q r S)
def lc_it (u : Bool) (q : Nat → Nat → Nat) (R : Nat) : Nat → (Nat → Bool) → (Nat → Bool)
  | 0, S => S
  | k + 1, S => lc_ps u q R (lc_it u q R k S)
/-- closed under the rules that take part -/
def lc_cl (u : Bool) (q : Nat → Nat → Nat) (R : Nat) (S : Nat → Bool) : Prop := ∀ r, r < R → lc_ca u q r → S (q r 0) = true → S (q r 1) = true
theorem lc_st_t {u : Bool} {q : Nat → Nat → Nat} {r : Nat} {S : Nat → Bool} (h : S (q r 0) = true) (hc : lc_ca u q r) : lc_st u q r S = fun i => S i || decide (i = q r 1) := by
  funext i
  unfold lc_st
  rw [h]
  cases u with
  | false => simp
  | true => obtain ⟨h1, h2⟩ := hc rfl; simp [h1, h2]
theorem lc_st_f {u : Bool} {q : Nat → Nat → Nat} {r : Nat} {S : Nat → Bool} (h : ¬ (S (q r 0) = true ∧ lc_ca u q r)) : lc_st u q r S = S := by
  funext i
  unfold lc_st
  by_cases h0 : S (q r 0) = true
  · have hc : ¬ lc_ca u q r := fun c => h ⟨h0, c⟩
    cases u with
    | false => exact absurd (fun z => by cases z) hc
    | true =>
      have h3 : ¬ (q r 1 < 8 ∧ q r 2 = 16) := fun z => hc (fun _ => z)
      have : (decide (q r 1 < 8) && decide (q r 2 = 16)) = false := by
        rw [Bool.eq_false_iff]
        intro z
        rw [Bool.and_eq_true, decide_eq_true_eq, decide_eq_true_eq] at z
        exact h3 z
      simp [this]
  · have : S (q r 0) = false := by simpa using h0
    simp [this]
theorem lc_st_sub {u : Bool} {q : Nat → Nat → Nat} {r : Nat} {S : Nat → Bool} {i : Nat} (h : S i = true) : lc_st u q r S i = true := by
  unfold lc_st; rw [h]; rfl
theorem lc_ps_sub {u : Bool} {q : Nat → Nat → Nat} {S : Nat → Bool} {i : Nat} (h : S i = true) (r : Nat) : lc_ps u q r S i = true := by
  induction r with
  | zero => exact h
  | succ r ih => exact lc_st_sub ih
theorem lc_ps_in {u : Bool} {q : Nat → Nat → Nat} {S : Nat → Bool} {r' : Nat} (hc : lc_ca u q r') (h : S (q r' 0) = true) : ∀ r, r' < r → lc_ps u q r S (q r' 1) = true := by
  intro r
  induction r with
  | zero => intro h; omega
  | succ r ih =>
    intro hr
    by_cases e : r' = r
    · subst e
      show lc_st u q r' (lc_ps u q r' S) (q r' 1) = true
      rw [lc_st_t (lc_ps_sub h r') hc]
      simp
    · exact lc_st_sub (ih (by omega))
theorem lc_ps_cl {u : Bool} {q : Nat → Nat → Nat} {R : Nat} {S : Nat → Bool} (h : lc_cl u q R S) : ∀ r, r ≤ R → lc_ps u q r S = S := by
  intro r
  induction r with
  | zero => intro _; rfl
  | succ r ih =>
    intro hr
    show lc_st u q r (lc_ps u q r S) = S
    rw [ih (by omega)]
    by_cases c : S (q r 0) = true ∧ lc_ca u q r
    · rw [lc_st_t c.1 c.2]
      funext i
      by_cases e : i = q r 1
      · subst e
        rw [h r (by omega) c.2 c.1]; rfl
      · rw [decide_eq_false e, Bool.or_false]
    · exact lc_st_f c
theorem lc_it_cl {u : Bool} {q : Nat → Nat → Nat} {R nt : Nat} {S : Nat → Bool} {a : Nat} (ha : a < nt) (hS : S a = true) (hq : ∀ r, r < R → q r 0 < nt) : lc_cl u q R (lc_it u q R nt S) := by
  have H : ∀ k, lc_cl u q R (lc_it u q R k S) ∨ k + 1 ≤ lc_cn (lc_it u q R k S) nt := by
    intro k
    induction k with
    | zero => exact Or.inr (lc_cn_pos ha hS)
    | succ k ih =>
      rcases ih with ih | ih
      · left
        show lc_cl u q R (lc_ps u q R (lc_it u q R k S))
        rw [lc_ps_cl ih R (Nat.le_refl R)]
        exact ih
      · by_cases h : ∃ i, i < nt ∧ ¬ lc_it u q R k S i = true ∧ lc_ps u q R (lc_it u q R k S) i = true
        · obtain ⟨i, hi, h1, h2⟩ := h
          right
          have := lc_cn_lt (S := lc_it u q R k S) (S' := lc_ps u q R (lc_it u q R k S)) (fun i h => lc_ps_sub h R) hi h1 h2
          show k + 1 + 1 ≤ lc_cn (lc_ps u q R (lc_it u q R k S)) nt
          omega
        · left
          intro r hr hc h2
          refine lc_ps_in hc ?_ R hr
          exact Decidable.byContradiction fun h1 => h ⟨q r 0, hq r hr, h1, h2⟩
  rcases H nt with h | h
  · exact h
  · have := lc_cn_le (lc_it u q R nt S) nt
    omega
theorem lc_it_more {u : Bool} {q : Nat → Nat → Nat} {R k : Nat} {S : Nat → Bool} (h : lc_cl u q R (lc_it u q R k S)) : ∀ j, lc_it u q R (k + j) S = lc_it u q R k S := by
  intro j
  induction j with
  | zero => rfl
  | succ j ih =>
    show lc_ps u q R (lc_it u q R (k + j) S) = _
    rw [ih]
    exact lc_ps_cl h R (Nat.le_refl R)
theorem lc_it_9 {u : Bool} {q : Nat → Nat → Nat} {R nt : Nat} {S : Nat → Bool} {a : Nat} (ha : a < nt) (h8 : nt ≤ 8) (hS : S a = true) (hq : ∀ r, r < R → q r 0 < nt) : lc_it u q R 9 S = lc_it u q R nt S := by
  have := lc_it_more (lc_it_cl (u := u) ha hS hq) (9 - nt)
  rw [show nt + (9 - nt) = 9 by omega] at this
  exact this
theorem lc_it_sub {u : Bool} {q : Nat → Nat → Nat} {R : Nat} {S : Nat → Bool} {i : Nat} (h : S i = true) : ∀ k, lc_it u q R k S i = true := by
  intro k
  induction k with
  | zero => exact h
  | succ k ih => exact lc_ps_sub ih R
/-! B: ranks of the unit rules -/
def lc_A (R : Nat) (q : Nat → Nat → Nat) (rk : Nat → Nat) : Prop := ∀ r, r < R → q r 1 < 8 → q r 2 = 16 → rk (q r 1) < rk (q r 0)
/-- ranks below nt -/
theorem lc_A_low {R nt : Nat} {q : Nat → Nat → Nat} {rk : Nat → Nat} (h : lc_A R q rk) (h0 : ∀ r, r < R → q r 0 < nt) (h1 : ∀ r, r < R → q r 1 < 8 → q r 1 < nt) : ∃ rl : Nat → Nat, lc_A R q rl ∧ ∀ x, x < nt → rl x < nt := by
  refine ⟨fun x => lc_cn (fun y => decide (rk y < rk x)) nt, ?_, ?_⟩
  · intro r hr h8 h16
    have hl := h r hr h8 h16
    refine lc_cn_lt (i := q r 1) ?_ (h1 r hr h8) ?_ ?_
    · intro i hi
      have hi' := of_decide_eq_true hi
      exact decide_eq_true (Nat.lt_trans hi' hl)
    · intro z
      have := of_decide_eq_true z
      omega
    · exact decide_eq_true hl
  · intro x hx
    have h2 := lc_cn_lt (S := fun y => decide (rk y < rk x)) (S' := fun _ => true) (fun _ _ => rfl) hx (by intro z; have := of_decide_eq_true z; omega) rfl
    have h3 := lc_cn_le (fun _ => true) nt
    show lc_cn (fun y => decide (rk y < rk x)) nt < nt
    omega
/-- a rule more -/
def lc_add (q : Nat → Nat → Nat) (R l a b c : Nat) : Nat → Nat → Nat := fun r p => if r = R then (if p = 0 then l else if p = 1 then a else if p = 2 then b else c) else q r p
theorem lc_add_lo {q : Nat → Nat → Nat} {R l a b c r : Nat} (h : r < R) (p : Nat) : lc_add q R l a b c r p = q r p := if_neg (by omega)
theorem lc_add_0 {q : Nat → Nat → Nat} {R l a b c : Nat} : lc_add q R l a b c R 0 = l := by simp [lc_add]
theorem lc_add_1 {q : Nat → Nat → Nat} {R l a b c : Nat} : lc_add q R l a b c R 1 = a := by simp [lc_add]
theorem lc_add_2 {q : Nat → Nat → Nat} {R l a b c : Nat} : lc_add q R l a b c R 2 = b := by simp [lc_add]
theorem lc_add_3 {q : Nat → Nat → Nat} {R l a b c : Nat} : lc_add q R l a b c R 3 = c := by simp [lc_add]
theorem lc_A_add {R : Nat} {q : Nat → Nat → Nat} {rk : Nat → Nat} {l a b c : Nat} (h : lc_A R q rk) (hn : a < 8 → b = 16 → ∃ S : Nat → Bool, lc_cl true q R S ∧ S a = true ∧ S l = false) : ∃ rk', lc_A (R + 1) (lc_add q R l a b c) rk' := by
  by_cases hu : a < 8 ∧ b = 16
  · obtain ⟨S, hc, hSa, hSl⟩ := hn hu.1 hu.2
    refine ⟨fun y => if S y = true then rk y else rk y + (rk a + 1), ?_⟩
    intro r hr h1 h2
    by_cases e : r = R
    · subst e
      rw [lc_add_0, lc_add_1]
      show (if S a = true then rk a else _) < (if S l = true then _ else rk l + (rk a + 1))
      rw [if_pos hSa, if_neg (by rw [hSl]; decide)]
      omega
    · have hr' : r < R := by omega
      rw [lc_add_lo hr'] at h1 h2 ⊢
      rw [lc_add_lo hr']
      have hlt := h r hr' h1 h2
      show (if S (q r 1) = true then rk (q r 1) else _) < (if S (q r 0) = true then rk (q r 0) else _)
      by_cases h0 : S (q r 0) = true
      · rw [if_pos h0, if_pos (hc r hr' (fun _ => ⟨h1, h2⟩) h0)]
        exact hlt
      · rw [if_neg h0]
        split <;> omega
  · refine ⟨rk, ?_⟩
    intro r hr h1 h2
    by_cases e : r = R
    · subst e
      rw [lc_add_1] at h1
      rw [lc_add_2] at h2
      exact absurd ⟨h1, h2⟩ hu
    · have hr' : r < R := by omega
      rw [lc_add_lo hr'] at h1 h2 ⊢
      rw [lc_add_lo hr']
      exact h r hr' h1 h2
/-! C: X's levels -/
/-- a chain of j unit rules begins at x -/
def lc_P (R : Nat) (q : Nat → Nat → Nat) : Nat → Nat → Prop
  | 0, _ => True
  | j + 1, x => ∃ r, r < R ∧ q r 1 < 8 ∧ q r 2 = 16 ∧ q r 0 = x ∧ lc_P R q j (q r 1)
theorem lc_P_rk {R : Nat} {q : Nat → Nat → Nat} {rk : Nat → Nat} (h : lc_A R q rk) : ∀ j x, lc_P R q j x → j ≤ rk x := by
  intro j
  induction j with
  | zero => intro x _; omega
  | succ j ih =>
    intro x hx
    obtain ⟨r, hr, h1, h2, rfl, hp⟩ := hx
    have := ih _ hp
    have := h r hr h1 h2
    omega
/-- the levels after k rounds, r rules into the next -/
def lc_lv (R nt : Nat) (q : Nat → Nat → Nat) (k r : Nat) (lv : Nat → Nat) : Prop :=
  (∀ x, x < nt → lc_P R q (lv x) x) ∧ (∀ x, x < nt → ∀ j, j ≤ k → lc_P R q j x → j ≤ lv x) ∧ (∀ i, i < r → q i 1 < 8 → q i 2 = 16 → ∀ j, j ≤ k → lc_P R q j (q i 1) → j + 1 ≤ lv (q i 0))
theorem lc_lv_0 {R nt : Nat} {q : Nat → Nat → Nat} {lv : Nat → Nat} (h : ∀ x, x < nt → lv x = 0) : lc_lv R nt q 0 0 lv :=
  ⟨fun x hx => by rw [h x hx]; exact True.intro, fun x hx j hj _ => by omega, fun i hi => by omega⟩
theorem lc_lv_n {R nt : Nat} {q : Nat → Nat → Nat} {k : Nat} {lv : Nat → Nat} (h : lc_lv R nt q k R lv) : lc_lv R nt q (k + 1) 0 lv := by
  obtain ⟨a, b, c⟩ := h
  refine ⟨a, ?_, fun i hi => by omega⟩
  intro x hx j hj hp
  by_cases e : j ≤ k
  · exact b x hx j e hp
  · obtain ⟨j', rfl⟩ : ∃ j', j = j' + 1 := ⟨j - 1, by omega⟩
    obtain ⟨r, hr, h1, h2, h0, hp'⟩ := hp
    have := c r hr h1 h2 j' (by omega) hp'
    rw [h0] at this
    exact this
/-- a natural number set in an array -/
def lc_up (f : Nat → Nat) (k v : Nat) : Nat → Nat := fun j => if j = k then v else f j
theorem lc_up_s {f : Nat → Nat} {k v : Nat} : lc_up f k v k = v := if_pos rfl
theorem lc_up_n {f : Nat → Nat} {k v j : Nat} (h : j ≠ k) : lc_up f k v j = f j := if_neg h
theorem lc_lv_up {R nt : Nat} {q : Nat → Nat → Nat} {k r : Nat} {lv : Nat → Nat} (h : lc_lv R nt q k r lv) (hr : r < R) (h0 : q r 0 < nt) (h1 : q r 1 < nt) (h8 : q r 1 < 8) (h2 : q r 2 = 16) : lc_lv R nt q k (r + 1) (if lv (q r 0) < lv (q r 1) + 1 then lc_up lv (q r 0) (lv (q r 1) + 1) else lv) := by
  obtain ⟨a, b, c⟩ := h
  have hmono : ∀ x, lv x ≤ (if lv (q r 0) < lv (q r 1) + 1 then lc_up lv (q r 0) (lv (q r 1) + 1) else lv) x := by
    intro x
    split
    · by_cases e : x = q r 0
      · subst e; rw [lc_up_s]; omega
      · rw [lc_up_n e]; omega
    · omega
  refine ⟨?_, ?_, ?_⟩
  · intro x hx
    split
    · by_cases e : x = q r 0
      · subst e; rw [lc_up_s]; exact ⟨r, hr, h8, h2, rfl, a _ h1⟩
      · rw [lc_up_n e]; exact a x hx
    · exact a x hx
  · intro x hx j hj hp
    exact Nat.le_trans (b x hx j hj hp) (hmono x)
  · intro i hi hi1 hi2 j hj hp
    by_cases e : i = r
    · subst e
      have hb := b _ h1 j hj hp
      split
      · rw [lc_up_s]; omega
      · omega
    · exact Nat.le_trans (c i (by omega) hi1 hi2 j hj hp) (hmono _)
theorem lc_lv_no {R nt : Nat} {q : Nat → Nat → Nat} {k r : Nat} {lv : Nat → Nat} (h : lc_lv R nt q k r lv) (hn : ¬ (q r 1 < 8 ∧ q r 2 = 16)) : lc_lv R nt q k (r + 1) lv := by
  obtain ⟨a, b, c⟩ := h
  refine ⟨a, b, ?_⟩
  intro i hi hi1 hi2 j hj hp
  by_cases e : i = r
  · subst e; exact absurd ⟨hi1, hi2⟩ hn
  · exact c i (by omega) hi1 hi2 j hj hp
/-- at the end the levels are ranks below nt -/
theorem lc_lv_end {R nt : Nat} {q : Nat → Nat → Nat} {rk lv : Nat → Nat} (hA : lc_A R q rk) (hk : ∀ x, x < nt → rk x < nt) (h0 : ∀ r, r < R → q r 0 < nt) (h1 : ∀ r, r < R → q r 1 < 8 → q r 1 < nt) (h : lc_lv R nt q (nt - 1) 0 lv) : lc_A R q lv ∧ ∀ x, x < nt → lv x < nt := by
  obtain ⟨a, b, -⟩ := h
  refine ⟨?_, ?_⟩
  · intro r hr h8 h2
    have hp : lc_P R q (lv (q r 1) + 1) (q r 0) := ⟨r, hr, h8, h2, rfl, a _ (h1 r hr h8)⟩
    have e1 := lc_P_rk hA _ _ hp
    have e2 := hk _ (h0 r hr)
    exact b _ (h0 r hr) _ (by omega) hp
  · intro x hx
    have := lc_P_rk hA _ _ (a x hx)
    have := hk x hx
    omega
end LCA
end
section
section LCB
/-! D: sums, saturated -/
def lc_cp (x : Nat) : Nat := if x < 1000000 then x else 1000000
theorem lc_cp_le (x : Nat) : lc_cp x ≤ 1000000 := by unfold lc_cp; split <;> omega
theorem lc_cp_a (x y : Nat) : lc_cp (lc_cp x + y) = lc_cp (x + y) := by
  unfold lc_cp
  by_cases h : x < 1000000
  · rw [if_pos h]
  · rw [if_neg h, if_neg (by omega), if_neg (by omega)]
theorem lc_cp_b (x y : Nat) : lc_cp (x + lc_cp y) = lc_cp (x + y) := by
  rw [Nat.add_comm, lc_cp_a, Nat.add_comm]
theorem lc_cp_lt {x : Nat} (h : lc_cp x < 1000000) : lc_cp x = x := by
  unfold lc_cp at h ⊢
  split at h
  · rw [if_pos (by assumption)]
  · omega
theorem lc_cp_id {x : Nat} (h : x ≤ 1000000) : lc_cp x = x := by
  unfold lc_cp; split <;> omega
theorem lc_cp_0 : lc_cp 0 = 0 := rfl
/-- the sum of f over a ≤ i < k -/
def lc_S (f : Nat → Nat) (a : Nat) : Nat → Nat
  | 0 => 0
  | k + 1 => lc_S f a k + (if a ≤ k then f k else 0)
theorem lc_S_s {f : Nat → Nat} {a k : Nat} (h : a ≤ k) : lc_S f a (k + 1) = lc_S f a k + f k := by
  show lc_S f a k + (if a ≤ k then f k else 0) = _
  rw [if_pos h]
theorem lc_S_0 {f : Nat → Nat} {a : Nat} : ∀ {k : Nat}, k ≤ a → lc_S f a k = 0 := by
  intro k
  induction k with
  | zero => intro _; rfl
  | succ k ih =>
    intro h
    show lc_S f a k + (if a ≤ k then f k else 0) = 0
    rw [if_neg (by omega), ih (by omega)]
theorem lc_S_c {f g : Nat → Nat} {a : Nat} : ∀ {k : Nat}, (∀ i, a ≤ i → i < k → f i = g i) → lc_S f a k = lc_S g a k := by
  intro k
  induction k with
  | zero => intro _; rfl
  | succ k ih =>
    intro h
    show lc_S f a k + (if a ≤ k then f k else 0) = lc_S g a k + (if a ≤ k then g k else 0)
    rw [ih (fun i h1 h2 => h i h1 (by omega))]
    by_cases e : a ≤ k
    · rw [if_pos e, if_pos e, h k e (by omega)]
    · rw [if_neg e, if_neg e]
theorem lc_S_le {f : Nat → Nat} {a i : Nat} (h : a ≤ i) : ∀ {k : Nat}, i < k → f i ≤ lc_S f a k := by
  intro k
  induction k with
  | zero => intro h; omega
  | succ k ih =>
    intro hk
    show f i ≤ lc_S f a k + (if a ≤ k then f k else 0)
    by_cases e : i = k
    · subst e; rw [if_pos h]; omega
    · have := ih (by omega); omega
theorem lc_S_h {f : Nat → Nat} {a : Nat} : ∀ {k : Nat}, a < k → lc_S f a k = f a + lc_S f (a + 1) k := by
  intro k
  induction k with
  | zero => intro h; omega
  | succ k ih =>
    intro hk
    by_cases e : a = k
    · subst e
      rw [lc_S_s (Nat.le_refl a), lc_S_0 (Nat.le_refl a), lc_S_0 (Nat.le_refl (a + 1))]; omega
    · rw [lc_S_s (by omega), lc_S_s (by omega), ih (by omega)]; omega
theorem lc_S_last {f : Nat → Nat} {a k : Nat} (h : ∀ i, a ≤ i → i < k → f i = 0) (hk : a ≤ k) : lc_S f a (k + 1) = f k := by
  rw [lc_S_s hk, lc_S_c (g := fun _ => 0) h]
  have : ∀ k, lc_S (fun _ => 0) a k = 0 := by
    intro k
    induction k with
    | zero => rfl
    | succ k ih => show lc_S (fun _ => 0) a k + (if a ≤ k then 0 else 0) = 0; rw [ih]; split <;> rfl
  rw [this]; omega
/-! E: the counts -/
def lc_ix (x s e : Nat) : Nat := (x * 13 + s) * 13 + e
theorem lc_ix_i {x s e x' s' e' : Nat} (h : lc_ix x s e = lc_ix x' s' e') (hs : s < 13) (he : e < 13) (hs' : s' < 13) (he' : e' < 13) : x = x' ∧ s = s' ∧ e = e' := by
  unfold lc_ix at h; omega
theorem lc_ix_lt {x s e : Nat} (hx : x < 8) (hs : s < 13) (he : e < 13) : lc_ix x s e < 1352 := by
  unfold lc_ix; omega
def lc_va (nt tm c : Nat) : Prop := c < nt ∨ (8 ≤ c ∧ c < 8 + tm)
/-- rule r is well made -/
def lc_gr (nt tm : Nat) (q : Nat → Nat → Nat) (r : Nat) : Prop := q r 0 < nt ∧ lc_va nt tm (q r 1) ∧ ((q r 2 = 16 ∧ q r 3 = 16) ∨ (lc_va nt tm (q r 2) ∧ (q r 3 = 16 ∨ lc_va nt tm (q r 3))))
def lc_G (nt tm R : Nat) (q : Nat → Nat → Nat) : Prop := nt ≤ 8 ∧ tm ≤ 8 ∧ ∀ r, r < R → lc_gr nt tm q r
def lc_y (w : Nat → Int32) (t : Nat → Nat) (c s e : Nat) : Nat := if c < 8 then t (lc_ix c s e) else if e = s + 1 ∧ w s = nI (c - 8) then 1 else 0
/-- in how many ways the last j symbols of rule r cover [s, e) -/
def lc_w (q : Nat → Nat → Nat) (w : Nat → Int32) (t : Nat → Nat) (r : Nat) : Nat → Nat → Nat → Nat
  | 0, s, e => if s = e then 1 else 0
  | j + 1, s, e => if q r (3 - j) = 16 then lc_w q w t r j s e else lc_cp (lc_S (fun k => lc_y w t (q r (3 - j)) s k * lc_w q w t r j k e) (s + 1) (e + 1))
def lc_g (q : Nat → Nat → Nat) (w : Nat → Int32) (t : Nat → Nat) (x s e : Nat) : Nat → Nat := fun r => if q r 0 = x then lc_w q w t r 3 s e else 0
def lc_n (q : Nat → Nat → Nat) (w : Nat → Int32) (t : Nat → Nat) (R x s e : Nat) : Nat := lc_cp (lc_S (lc_g q w t x s e) 0 R)
variable {q : Nat → Nat → Nat} {w : Nat → Int32} {t t' : Nat → Nat} {nt tm R n : Nat} {rk : Nat → Nat}
theorem lc_w_0 {r s e : Nat} : lc_w q w t r 0 s e = if s = e then 1 else 0 := rfl
theorem lc_w_s {r j s e : Nat} (h : ¬ q r (3 - j) = 16) : lc_w q w t r (j + 1) s e = lc_cp (lc_S (fun k => lc_y w t (q r (3 - j)) s k * lc_w q w t r j k e) (s + 1) (e + 1)) := if_neg h
theorem lc_w_n {r j s e : Nat} (h : q r (3 - j) = 16) : lc_w q w t r (j + 1) s e = lc_w q w t r j s e := if_pos h
theorem lc_w_z {r j e : Nat} (h : ¬ q r (3 - j) = 16) : lc_w q w t r (j + 1) e e = 0 := by
  rw [lc_w_s h, lc_S_0 (Nat.le_refl _)]; rfl
theorem lc_w_le {r : Nat} : ∀ j s e, lc_w q w t r j s e ≤ 1000000 := by
  intro j
  induction j with
  | zero => intro s e; rw [lc_w_0]; split <;> omega
  | succ j ih =>
    intro s e
    by_cases h : q r (3 - j) = 16
    · rw [lc_w_n h]; exact ih s e
    · rw [lc_w_s h]; exact lc_cp_le _
theorem lc_y_le (ht : ∀ j, t j ≤ 1000000) (c s e : Nat) : lc_y w t c s e ≤ 1000000 := by
  unfold lc_y
  split
  · exact ht _
  · split <;> omega
theorem lc_n_le (x s e : Nat) : lc_n q w t R x s e ≤ 1000000 := lc_cp_le _
theorem lc_G_16 (hG : lc_G nt tm R q) {r : Nat} (hr : r < R) : ¬ q r 1 = 16 ∧ (q r 2 = 16 → q r 3 = 16) := by
  obtain ⟨h8, t8, h⟩ := hG
  obtain ⟨h0, h1, h2⟩ := h r hr
  unfold lc_va at h1 h2
  constructor
  · omega
  · intro e; omega
theorem lc_G_8 (hG : lc_G nt tm R q) {r : Nat} (hr : r < R) : ∀ p, p ≤ 3 → q r p < 8 → q r p < nt := by
  obtain ⟨h8, t8, h⟩ := hG
  obtain ⟨h0, h1, h2⟩ := h r hr
  unfold lc_va at h1 h2
  intro p hp h
  have : p = 0 ∨ p = 1 ∨ p = 2 ∨ p = 3 := by omega
  rcases this with rfl | rfl | rfl | rfl <;> omega
theorem lc_G_r (hG : lc_G nt tm R q) {r : Nat} (hr : r < R) : ∀ p, p ≤ 3 → q r p ≤ 16 := by
  obtain ⟨h8, t8, h⟩ := hG
  obtain ⟨h0, h1, h2⟩ := h r hr
  unfold lc_va at h1 h2
  intro p hp
  have : p = 0 ∨ p = 1 ∨ p = 2 ∨ p = 3 := by omega
  rcases this with rfl | rfl | rfl | rfl <;> omega
theorem lc_y_c {c s e : Nat} (h : c < 8 → t (lc_ix c s e) = t' (lc_ix c s e)) : lc_y w t c s e = lc_y w t' c s e := by
  unfold lc_y
  by_cases h8 : c < 8
  · rw [if_pos h8, if_pos h8, h h8]
  · rw [if_neg h8, if_neg h8]
theorem lc_w_c {r : Nat} (hn : ∀ p, p ≤ 3 → q r p < 8 → q r p < nt) : ∀ j s e, (∀ x a b, x < nt → s ≤ a → a < b → b ≤ e → t (lc_ix x a b) = t' (lc_ix x a b)) → lc_w q w t r j s e = lc_w q w t' r j s e := by
  intro j
  induction j with
  | zero => intro s e _; rfl
  | succ j ih =>
    intro s e h
    by_cases c : q r (3 - j) = 16
    · rw [lc_w_n c, lc_w_n c]; exact ih s e h
    · rw [lc_w_s c, lc_w_s c]
      refine congrArg lc_cp (lc_S_c ?_)
      intro k h1 h2
      show lc_y w t (q r (3 - j)) s k * lc_w q w t r j k e = lc_y w t' (q r (3 - j)) s k * lc_w q w t' r j k e
      rw [lc_y_c (fun h8 => h _ s k (hn _ (by omega) h8) (by omega) (by omega) (by omega)), ih k e (fun x a b h3 h4 h5 h6 => h x a b h3 (by omega) h5 h6)]
theorem lc_w3_c (hG : lc_G nt tm R q) {r : Nat} (hr : r < R) {s e : Nat} (h : ∀ x a b, x < nt → s ≤ a → a < b → b ≤ e → b - a < e - s → t (lc_ix x a b) = t' (lc_ix x a b)) (hu : q r 1 < 8 → q r 2 = 16 → t (lc_ix (q r 1) s e) = t' (lc_ix (q r 1) s e)) : lc_w q w t r 3 s e = lc_w q w t' r 3 s e := by
  have hn := lc_G_8 hG hr
  have h16 := (lc_G_16 hG hr).1
  rw [lc_w_s (j := 2) h16, lc_w_s (j := 2) h16]
  refine congrArg lc_cp (lc_S_c ?_)
  intro k h1 h2
  show lc_y w t (q r 1) s k * lc_w q w t r 2 k e = lc_y w t' (q r 1) s k * lc_w q w t' r 2 k e
  by_cases hk : k < e
  · rw [lc_y_c (fun h8 => h _ s k (hn 1 (by omega) h8) (by omega) (by omega) (by omega) (by omega)), lc_w_c hn 2 k e (fun x a b h3 h4 h5 h6 => h x a b h3 (by omega) h5 h6 (by omega))]
  · obtain rfl : k = e := by omega
    by_cases h2 : q r 2 = 16
    · rw [lc_y_c (fun h8 => hu h8 h2), lc_w_c hn 2 k k (fun x a b h3 h4 h5 h6 => by omega)]
    · rw [lc_w_z (j := 1) h2, lc_w_z (j := 1) h2, Nat.mul_zero, Nat.mul_zero]
theorem lc_n_c {x s e : Nat} (h : ∀ r, r < R → q r 0 = x → lc_w q w t r 3 s e = lc_w q w t' r 3 s e) : lc_n q w t R x s e = lc_n q w t' R x s e := by
  refine congrArg lc_cp (lc_S_c ?_)
  intro r _ hr
  unfold lc_g
  by_cases hx : q r 0 = x
  · rw [if_pos hx, if_pos hx, h r hr hx]
  · rw [if_neg hx, if_neg hx]
/-- the cell's count is what the rules ask -/
def lc_ok (q : Nat → Nat → Nat) (w : Nat → Int32) (R : Nat) (t : Nat → Nat) (x s e : Nat) : Prop := t (lc_ix x s e) = lc_n q w t R x s e
theorem lc_n_up (hG : lc_G nt tm R q) (hA : lc_A R q rk) {x s e x' s' e' v : Nat} (he : e < 13) (hs : s < e) (he' : e' < 13) (hs' : s' < e') (h1 : e' - s' ≤ e - s) (h2 : s' = s → e' = e → rk x' ≤ rk x) : lc_n q w (lc_up t (lc_ix x s e) v) R x' s' e' = lc_n q w t R x' s' e' := by
  refine lc_n_c ?_
  intro r hr hx
  refine lc_w3_c hG hr ?_ ?_
  · intro y a b hy ha hab hb hl
    refine lc_up_n ?_
    intro z
    obtain ⟨-, z2, z3⟩ := lc_ix_i z (by omega) (by omega) (by omega) (by omega)
    omega
  · intro h8 h16
    refine lc_up_n ?_
    intro z
    obtain ⟨z1, z2, z3⟩ := lc_ix_i z (by omega) (by omega) (by omega) (by omega)
    have := hA r hr h8 h16
    have := h2 z2 z3
    rw [z1, hx] at *
    omega
theorem lc_ok_w (hG : lc_G nt tm R q) (hA : lc_A R q rk) {x s e : Nat} (he : e < 13) (hs : s < e) : lc_ok q w R (lc_up t (lc_ix x s e) (lc_n q w t R x s e)) x s e := by
  unfold lc_ok
  rw [lc_n_up hG hA he hs he hs (Nat.le_refl _) (fun _ _ => Nat.le_refl _), lc_up_s]
theorem lc_ok_k (hG : lc_G nt tm R q) (hA : lc_A R q rk) {x s e x' s' e' v : Nat} (he : e < 13) (hs : s < e) (he' : e' < 13) (hs' : s' < e') (h1 : e' - s' ≤ e - s) (h2 : s' = s → e' = e → rk x' ≤ rk x ∧ x' ≠ x) (h : lc_ok q w R t x' s' e') : lc_ok q w R (lc_up t (lc_ix x s e) v) x' s' e' := by
  unfold lc_ok
  rw [lc_n_up hG hA he hs he' hs' h1 (fun a b => (h2 a b).1), lc_up_n]
  · exact h
  · intro z
    obtain ⟨z1, z2, z3⟩ := lc_ix_i z (by omega) (by omega) (by omega) (by omega)
    exact (h2 z2 z3).2 z1
theorem lc_ok_s {x s e : Nat} (h : lc_ok q w R t x s e) : lc_up t (lc_ix x s e) (lc_n q w t R x s e) = t := by
  funext j
  unfold lc_up
  split
  · subst_vars; exact h.symm
  · rfl
def lc_sat (q : Nat → Nat → Nat) (w : Nat → Int32) (R nt n : Nat) (t : Nat → Nat) : Prop := ∀ x s e, x < nt → s < e → e ≤ n → lc_ok q w R t x s e
theorem lc_uq (hG : lc_G nt tm R q) (hA : lc_A R q rk) (h : lc_sat q w R nt n t) (h' : lc_sat q w R nt n t') : ∀ x s e, x < nt → s < e → e ≤ n → t (lc_ix x s e) = t' (lc_ix x s e) := by
  have H : ∀ L k x s e, e - s = L → rk x = k → x < nt → s < e → e ≤ n → t (lc_ix x s e) = t' (lc_ix x s e) := by
    intro L
    induction L using Nat.strongRecOn with
    | ind L ihL =>
      intro k
      induction k using Nat.strongRecOn with
      | ind k ihk =>
        intro x s e hL hk hx hs he
        rw [h x s e hx hs he, h' x s e hx hs he]
        refine lc_n_c ?_
        intro r hr hx0
        refine lc_w3_c hG hr ?_ ?_
        · intro y a b hy ha hab hb hl
          exact ihL (b - a) (by omega) (rk y) y a b rfl rfl hy hab (by omega)
        · intro h8 h16
          have h1 := hA r hr h8 h16
          have h2 := lc_G_8 hG hr 1 (by omega) h8
          exact ihk (rk (q r 1)) (by rw [← hk, ← hx0]; exact h1) (q r 1) s e hL rfl h2 hs he
  intro x s e
  exact H _ _ x s e rfl rfl
/-! F: the counts as Y has them -/
theorem lc_w_e {r j : Nat} (h : ∀ i, i < j → q r (3 - i) = 16) : ∀ s e, lc_w q w t r j s e = if s = e then 1 else 0 := by
  induction j with
  | zero => intro s e; rfl
  | succ j ih =>
    intro s e
    rw [lc_w_n (h j (by omega))]
    exact ih (fun i hi => h i (by omega)) s e
/-- one symbol is left -/
theorem lc_w_l {r j s e : Nat} (ht : ∀ j, t j ≤ 1000000) (h : ∀ i, i < j → q r (3 - i) = 16) (hj : ¬ q r (3 - j) = 16) (hs : s < e) : lc_w q w t r (j + 1) s e = lc_y w t (q r (3 - j)) s e := by
  rw [lc_w_s hj, lc_S_last]
  · rw [lc_w_e h, if_pos rfl, Nat.mul_one, lc_cp_id (lc_y_le ht _ _ _)]
  · intro i h1 h2
    rw [lc_w_e h, if_neg (by omega), Nat.mul_zero]
  · omega
/-- more than one symbol is left -/
theorem lc_w_m {r j s e : Nat} (hj : ¬ q r (3 - (j + 1)) = 16) (hj' : ¬ q r (3 - j) = 16) (hs : s < e) : lc_w q w t r (j + 1 + 1) s e = lc_cp (lc_S (fun k => lc_y w t (q r (3 - (j + 1))) s k * lc_w q w t r (j + 1) k e) (s + 1) e) := by
  rw [lc_w_s hj, lc_S_s (by omega)]
  show lc_cp (_ + lc_y w t (q r (3 - (j + 1))) s e * lc_w q w t r (j + 1) e e) = _
  rw [lc_w_z hj', Nat.mul_zero, Nat.add_zero]
end LCB
end
section
section LCC
/-! G: the tree of a rank -/
/-- the first place from a on whose part holds the rank k, and the rank there -/
def lc_f (f : Nat → Nat) : Nat → Nat → Nat → Nat × Nat
  | 0, a, k => (a, k)
  | n + 1, a, k => if k < f a then (a, k) else lc_f f n (a + 1) (k - f a)
theorem lc_f_t {f : Nat → Nat} {n a k : Nat} (h : k < f a) : lc_f f (n + 1) a k = (a, k) := if_pos h
theorem lc_f_n {f : Nat → Nat} {n a k : Nat} (h : ¬ k < f a) : lc_f f (n + 1) a k = lc_f f n (a + 1) (k - f a) := if_neg h
theorem lc_S_sub {f : Nat → Nat} {a b k : Nat} (h : ¬ k < f a) (hb : a < b) (hk : k < lc_S f a b) : k - f a < lc_S f (a + 1) b := by
  rw [lc_S_h hb] at hk; omega
theorem lc_f_ok {f : Nat → Nat} : ∀ n a k, k < lc_S f a (a + n) → a ≤ (lc_f f n a k).1 ∧ (lc_f f n a k).1 < a + n ∧ (lc_f f n a k).2 < f (lc_f f n a k).1 := by
  intro n
  induction n with
  | zero => intro a k h; rw [lc_S_0 (by omega)] at h; omega
  | succ n ih =>
    intro a k h
    by_cases c : k < f a
    · rw [lc_f_t c]; exact ⟨Nat.le_refl a, by omega, c⟩
    · rw [lc_f_n c]
      have h2 := lc_S_sub c (by omega) h
      rw [show a + (n + 1) = a + 1 + n by omega] at h2
      have := ih (a + 1) (k - f a) h2
      omega
theorem lc_f_skip {f : Nat → Nat} : ∀ n a k, (∀ i, a ≤ i → i < a + n → f i = 0) → k < f (a + n) → lc_f f (n + 1) a k = (a + n, k) := by
  intro n
  induction n with
  | zero => intro a k _ h; exact lc_f_t h
  | succ n ih =>
    intro a k h hk
    have h0 := h a (Nat.le_refl a) (by omega)
    rw [lc_f_n (by omega), h0, Nat.sub_zero, ih (a + 1) k (fun i h1 h2 => h i (by omega) (by omega)) (by rw [show a + 1 + n = a + (n + 1) by omega]; exact hk)]
    rw [show a + 1 + n = a + (n + 1) by omega]
variable {q : Nat → Nat → Nat} {w : Nat → Int32} {t t' : Nat → Nat} {nt tm R n : Nat} {rk : Nat → Nat}
def lc_mf (q : Nat → Nat → Nat) (w : Nat → Int32) (t : Nat → Nat) (r j s e : Nat) : Nat → Nat := fun i => lc_y w t (q r (3 - j)) s i * lc_w q w t r j i e
/-- where the first of the last j + 1 symbols of rule r ends, and the rank there -/
def lc_m (q : Nat → Nat → Nat) (w : Nat → Int32) (t : Nat → Nat) (r j s e k : Nat) : Nat × Nat := lc_f (lc_mf q w t r j s e) (e - s) (s + 1) k
def lc_pk (q : Nat → Nat → Nat) (w : Nat → Int32) (t : Nat → Nat) (R x s e k : Nat) : Nat × Nat := lc_f (lc_g q w t x s e) R 0 k
def lc_vt (q : Nat → Nat → Nat) (w : Nat → Int32) (t : Nat → Nat) (R n r j s e k : Nat) : Prop := r < R ∧ j ≤ 2 ∧ s < e ∧ e ≤ n ∧ ¬ q r (3 - j) = 16 ∧ k < lc_w q w t r (j + 1) s e ∧ lc_w q w t r (j + 1) s e < 1000000
def lc_ve (t : Nat → Nat) (nt n x s e k : Nat) : Prop := x < nt ∧ s < e ∧ e ≤ n ∧ k < t (lc_ix x s e) ∧ t (lc_ix x s e) < 1000000
theorem lc_mp {a b : Nat} (h : 0 < a * b) : 0 < a ∧ 0 < b := by
  constructor
  · rcases Nat.eq_zero_or_pos a with h1 | h1
    · rw [h1, Nat.zero_mul] at h; omega
    · exact h1
  · rcases Nat.eq_zero_or_pos b with h1 | h1
    · rw [h1, Nat.mul_zero] at h; omega
    · exact h1
/-- what is left behind the middle is a tail again -/
theorem lc_nx (hG : lc_G nt tm R q) {r j m e : Nat} (hr : r < R) (hj : j ≤ 2) (hm : m < e) (hw : 0 < lc_w q w t r j m e) : ∃ j', j = j' + 1 ∧ ¬ q r (3 - j') = 16 := by
  cases j with
  | zero => rw [lc_w_0, if_neg (by omega)] at hw; omega
  | succ j =>
    refine ⟨j, rfl, ?_⟩
    intro h
    rw [lc_w_n h] at hw
    cases j with
    | zero => rw [lc_w_0, if_neg (by omega)] at hw; omega
    | succ j =>
      have e : j = 0 := by omega
      subst e
      rw [lc_w_n ((lc_G_16 hG hr).2 h), lc_w_0, if_neg (by omega)] at hw
      omega
theorem lc_vt_S {r j s e k : Nat} (h : lc_vt q w t R n r j s e k) : k < lc_S (lc_mf q w t r j s e) (s + 1) (e + 1) ∧ lc_S (lc_mf q w t r j s e) (s + 1) (e + 1) < 1000000 := by
  obtain ⟨hr, hj, hs, he, h16, hk, hc⟩ := h
  rw [lc_w_s h16] at hk hc
  rw [lc_cp_lt hc] at hk hc
  exact ⟨hk, hc⟩
theorem lc_m_ok (hG : lc_G nt tm R q) {r j s e k : Nat} (h : lc_vt q w t R n r j s e k) :
    s < (lc_m q w t r j s e k).1 ∧ (lc_m q w t r j s e k).1 ≤ e ∧
    (lc_m q w t r j s e k).2 < lc_y w t (q r (3 - j)) s (lc_m q w t r j s e k).1 * lc_w q w t r j (lc_m q w t r j s e k).1 e ∧
    lc_y w t (q r (3 - j)) s (lc_m q w t r j s e k).1 * lc_w q w t r j (lc_m q w t r j s e k).1 e < 1000000 := by
  obtain ⟨hk, hc⟩ := lc_vt_S h
  obtain ⟨hr, hj, hs, he, h16, -, -⟩ := h
  have e1 : s + 1 + (e - s) = e + 1 := by omega
  have H := lc_f_ok (f := lc_mf q w t r j s e) (e - s) (s + 1) k (by rw [e1]; exact hk)
  obtain ⟨a, b, c⟩ := H
  have d := lc_S_le (f := lc_mf q w t r j s e) a (k := e + 1) (by omega)
  exact ⟨by unfold lc_m; omega, by unfold lc_m; omega, c, Nat.lt_of_le_of_lt d hc⟩
/-- the tail behind the middle -/
theorem lc_m_nx (hG : lc_G nt tm R q) {r j s e k m b : Nat} (h : lc_vt q w t R n r j s e k) (hm : s < m) (he : m < e) (hb : b < lc_y w t (q r (3 - j)) s m * lc_w q w t r j m e) (hc : lc_y w t (q r (3 - j)) s m * lc_w q w t r j m e < 1000000) : ∃ j', j = j' + 1 ∧ lc_vt q w t R n r j' m e (b % lc_w q w t r j m e) := by
  obtain ⟨hr, hj, hs, hn, h16, -, -⟩ := h
  obtain ⟨h1, h2⟩ := lc_mp (Nat.lt_of_le_of_lt (Nat.zero_le b) hb)
  obtain ⟨j', rfl, h3⟩ := lc_nx hG hr hj he h2
  refine ⟨j', rfl, hr, by omega, he, hn, h3, Nat.mod_lt _ h2, ?_⟩
  exact Nat.lt_of_le_of_lt (Nat.le_mul_of_pos_left _ h1) hc
/-- the child before the middle -/
theorem lc_m_ch (hG : lc_G nt tm R q) {r j s e k m b : Nat} (h : lc_vt q w t R n r j s e k) (hm : s < m) (he : m ≤ e) (hb : b < lc_y w t (q r (3 - j)) s m * lc_w q w t r j m e) (hc : lc_y w t (q r (3 - j)) s m * lc_w q w t r j m e < 1000000) (h8 : q r (3 - j) < 8) : lc_ve t nt n (q r (3 - j)) s m (b / lc_w q w t r j m e) := by
  obtain ⟨hr, hj, hs, hn, h16, -, -⟩ := h
  obtain ⟨h1, h2⟩ := lc_mp (Nat.lt_of_le_of_lt (Nat.zero_le b) hb)
  have ey : lc_y w t (q r (3 - j)) s m = t (lc_ix (q r (3 - j)) s m) := if_pos h8
  refine ⟨lc_G_8 hG hr _ (by omega) h8, hm, by omega, ?_, ?_⟩
  · rw [← ey]; exact (Nat.div_lt_iff_lt_mul h2).mpr hb
  · rw [← ey]; exact Nat.lt_of_le_of_lt (Nat.le_mul_of_pos_right _ h2) hc
theorem lc_m_te {c s m : Nat} (h8 : ¬ c < 8) (h : 0 < lc_y w t c s m) : m = s + 1 := by
  unfold lc_y at h
  rw [if_neg h8] at h
  split at h
  · exact (by assumption : _ ∧ _).1
  · omega
theorem lc_m_un (hG : lc_G nt tm R q) {r e : Nat} (hr : r < R) (h : 0 < lc_w q w t r 2 e e) : q r 2 = 16 := by
  refine Decidable.byContradiction fun z => ?_
  rw [lc_w_z (j := 1) z] at h
  omega
theorem lc_pk_ok (hG : lc_G nt tm R q) (hS : lc_sat q w R nt n t) {x s e k : Nat} (h : lc_ve t nt n x s e k) : q (lc_pk q w t R x s e k).1 0 = x ∧ lc_vt q w t R n (lc_pk q w t R x s e k).1 2 s e (lc_pk q w t R x s e k).2 := by
  obtain ⟨hx, hs, he, hk, hc⟩ := h
  rw [hS x s e hx hs he] at hk hc
  unfold lc_n at hk hc
  rw [lc_cp_lt hc] at hk hc
  have H := lc_f_ok (f := lc_g q w t x s e) R 0 k (by rw [Nat.zero_add]; exact hk)
  obtain ⟨a, b, c⟩ := H
  have d := lc_S_le (f := lc_g q w t x s e) a (k := R) (by omega)
  have e0 : q (lc_f (lc_g q w t x s e) R 0 k).1 0 = x := by
    refine Decidable.byContradiction fun z => ?_
    have c0 : lc_g q w t x s e (lc_f (lc_g q w t x s e) R 0 k).1 = 0 := if_neg z
    omega
  have eg : lc_g q w t x s e (lc_f (lc_g q w t x s e) R 0 k).1 = lc_w q w t (lc_f (lc_g q w t x s e) R 0 k).1 3 s e := if_pos e0
  rw [eg] at c d
  unfold lc_pk
  exact ⟨e0, by omega, Nat.le_refl 2, hs, he, (lc_G_16 hG (by omega)).1, c, Nat.lt_of_le_of_lt d hc⟩
/-! H: entries, nodes -/
abbrev lc_E : Type := Nat × Nat × Nat × Nat × Nat
abbrev lc_N : Type := Nat × Nat × Nat × Nat
/-- r, j, start, end, rank, depth -/
abbrev lc_L : Type := Nat × Nat × Nat × Nat × Nat × Nat
def lc_k1 (c s m k d : Nat) : List lc_E := if c < 8 then [(c, s, m, k, d)] else []
def lc_kd (q : Nat → Nat → Nat) (w : Nat → Int32) (t : Nat → Nat) (r : Nat) : Nat → Nat → Nat → Nat → Nat → List lc_E
  | 0, _, _, _, _ => []
  | j + 1, s, e, k, d => lc_k1 (q r (3 - j)) s (lc_m q w t r j s e k).1 ((lc_m q w t r j s e k).2 / lc_w q w t r j (lc_m q w t r j s e k).1 e) d ++ (if (lc_m q w t r j s e k).1 < e then lc_kd q w t r j (lc_m q w t r j s e k).1 e ((lc_m q w t r j s e k).2 % lc_w q w t r j (lc_m q w t r j s e k).1 e) d else [])
theorem lc_kd_s {r j s e k d : Nat} : lc_kd q w t r (j + 1) s e k d = lc_k1 (q r (3 - j)) s (lc_m q w t r j s e k).1 ((lc_m q w t r j s e k).2 / lc_w q w t r j (lc_m q w t r j s e k).1 e) d ++ (if (lc_m q w t r j s e k).1 < e then lc_kd q w t r j (lc_m q w t r j s e k).1 e ((lc_m q w t r j s e k).2 % lc_w q w t r j (lc_m q w t r j s e k).1 e) d else []) := rfl
def lc_run (q : Nat → Nat → Nat) (w : Nat → Int32) (t : Nat → Nat) (R : Nat) : Nat → List lc_E → List lc_N
  | 0, _ => []
  | _ + 1, [] => []
  | f + 1, (x, s, e, k, d) :: l => ((lc_pk q w t R x s e k).1, s, e, d) :: lc_run q w t R f (lc_kd q w t (lc_pk q w t R x s e k).1 3 s e (lc_pk q w t R x s e k).2 (d + 1) ++ l)
theorem lc_run_s {f x s e k d : Nat} {l : List lc_E} : lc_run q w t R (f + 1) ((x, s, e, k, d) :: l) = ((lc_pk q w t R x s e k).1, s, e, d) :: lc_run q w t R f (lc_kd q w t (lc_pk q w t R x s e k).1 3 s e (lc_pk q w t R x s e k).2 (d + 1) ++ l) := rfl
theorem lc_run_n {f : Nat} : lc_run q w t R f [] = [] := by cases f <;> rfl
def lc_mu (rk : Nat → Nat) : List lc_E → Nat
  | [] => 0
  | (x, s, e, _, _) :: l => 17 * (e - s) - 15 + rk x + lc_mu rk l
theorem lc_mu_c {rk : Nat → Nat} {x s e k d : Nat} {l : List lc_E} : lc_mu rk ((x, s, e, k, d) :: l) = 17 * (e - s) - 15 + rk x + lc_mu rk l := rfl
theorem lc_mu_a {rk : Nat → Nat} (l m : List lc_E) : lc_mu rk (l ++ m) = lc_mu rk l + lc_mu rk m := by
  induction l with
  | nil => show lc_mu rk m = 0 + lc_mu rk m; omega
  | cons a l ih =>
    obtain ⟨x, s, e, k, d⟩ := a
    show 17 * (e - s) - 15 + rk x + lc_mu rk (l ++ m) = 17 * (e - s) - 15 + rk x + lc_mu rk l + lc_mu rk m
    rw [ih]; omega
def lc_ev (t : Nat → Nat) (nt n : Nat) : List lc_E → Prop
  | [] => True
  | (x, s, e, k, _) :: l => lc_ve t nt n x s e k ∧ lc_ev t nt n l
theorem lc_ev_a {t : Nat → Nat} {nt n : Nat} {l m : List lc_E} (h : lc_ev t nt n l) (h' : lc_ev t nt n m) : lc_ev t nt n (l ++ m) := by
  induction l with
  | nil => exact h'
  | cons a l ih =>
    obtain ⟨x, s, e, k, d⟩ := a
    exact ⟨h.1, ih h.2⟩
def lc_B (rk : Nat → Nat) (q : Nat → Nat → Nat) (r j s e : Nat) : Nat := if j = 2 then 17 * (e - s) - 16 + rk (q r 0) else 17 * (e - s) - 8
theorem lc_B_2 {r s e : Nat} : lc_B rk q r 2 s e = 17 * (e - s) - 16 + rk (q r 0) := if_pos rfl
theorem lc_B_n {r j s e : Nat} (h : j ≠ 2) : lc_B rk q r j s e = 17 * (e - s) - 8 := if_neg h
theorem lc_B_pos {r j s e : Nat} (h : s < e) : 1 ≤ lc_B rk q r j s e := by
  unfold lc_B; split <;> omega
/-- what a child takes of its tail's bound: c over [s, m), nothing behind it -/
theorem lc_B_end (hG : lc_G nt tm R q) (hA : lc_A R q rk) (hk : ∀ x, x < nt → rk x < nt) {r j s e : Nat} (hr : r < R) (hj : j ≤ 2) (hs : s < e) (hw : 0 < lc_w q w t r j e e) (h8 : q r (3 - j) < 8) : 17 * (e - s) - 15 + rk (q r (3 - j)) ≤ lc_B rk q r j s e := by
  have h1 := hk _ (lc_G_8 hG hr (3 - j) (by omega) h8)
  have h2 := hG.1
  by_cases hj2 : j = 2
  · subst hj2
    have h3 := hA r hr h8 (lc_m_un hG hr hw)
    rw [lc_B_2]
    show 17 * (e - s) - 15 + rk (q r 1) ≤ _
    omega
  · rw [lc_B_n hj2]; omega
theorem lc_B_mid (hG : lc_G nt tm R q) (hk : ∀ x, x < nt → rk x < nt) {r j s m e : Nat} (hr : r < R) (hj : j + 1 ≤ 2) (hs : s < m) (hm : m < e) (h8 : q r (3 - (j + 1)) < 8) : 17 * (m - s) - 15 + rk (q r (3 - (j + 1))) + lc_B rk q r j m e ≤ lc_B rk q r (j + 1) s e := by
  have h1 := hk _ (lc_G_8 hG hr (3 - (j + 1)) (by omega) h8)
  have h2 := hG.1
  rw [lc_B_n (j := j) (by omega)]
  unfold lc_B
  split <;> omega
theorem lc_B_ter {r j s e : Nat} (hj : j + 1 ≤ 2) (hm : s + 1 < e) : 1 + lc_B rk q r j (s + 1) e ≤ lc_B rk q r (j + 1) s e := by
  rw [lc_B_n (j := j) (by omega)]
  unfold lc_B
  split <;> omega
theorem lc_kd_ok (hG : lc_G nt tm R q) (hA : lc_A R q rk) (hk : ∀ x, x < nt → rk x < nt) {r d : Nat} : ∀ j s e k, lc_vt q w t R n r j s e k → lc_ev t nt n (lc_kd q w t r (j + 1) s e k d) ∧ lc_mu rk (lc_kd q w t r (j + 1) s e k d) ≤ lc_B rk q r j s e := by
  intro j
  induction j with
  | zero =>
    intro s e k h
    obtain ⟨m1, m2, m3, m4⟩ := lc_m_ok hG h
    have hme : ¬ (lc_m q w t r 0 s e k).1 < e := by
      intro z
      obtain ⟨j', e1, -⟩ := lc_m_nx hG h m1 z m3 m4
      omega
    rw [lc_kd_s, if_neg hme, List.append_nil]
    unfold lc_k1
    by_cases h8 : q r (3 - 0) < 8
    · rw [if_pos h8]
      have e1 : (lc_m q w t r 0 s e k).1 = e := by omega
      have hc := lc_m_ch hG h m1 m2 m3 m4 h8
      rw [e1] at hc m3 ⊢
      refine ⟨⟨hc, True.intro⟩, ?_⟩
      exact lc_B_end hG hA hk h.1 (by omega) h.2.2.1 (lc_mp (Nat.lt_of_le_of_lt (Nat.zero_le _) m3)).2 h8
    · rw [if_neg h8]
      exact ⟨True.intro, Nat.zero_le _⟩
  | succ j ih =>
    intro s e k h
    obtain ⟨m1, m2, m3, m4⟩ := lc_m_ok hG h
    have hp := lc_mp (Nat.lt_of_le_of_lt (Nat.zero_le _) m3)
    rw [lc_kd_s]
    have hj2 := h.2.1
    by_cases hme : (lc_m q w t r (j + 1) s e k).1 < e
    · rw [if_pos hme]
      obtain ⟨j', e1, hv⟩ := lc_m_nx hG h m1 hme m3 m4
      have e2 : j' = j := by omega
      subst e2
      obtain ⟨i1, i2⟩ := ih _ _ _ hv
      unfold lc_k1
      by_cases h8 : q r (3 - (j' + 1)) < 8
      · rw [if_pos h8]
        refine ⟨⟨lc_m_ch hG h m1 m2 m3 m4 h8, i1⟩, ?_⟩
        have := lc_B_mid hG hk h.1 hj2 m1 hme h8
        rw [List.cons_append, List.nil_append, lc_mu_c]
        omega
      · rw [if_neg h8]
        refine ⟨i1, ?_⟩
        have e3 := lc_m_te h8 hp.1
        have := lc_B_ter (rk := rk) (q := q) (r := r) (j := j') (s := s) (e := e) hj2 (by omega)
        rw [e3] at i2 ⊢
        show lc_mu rk (lc_kd q w t r (j' + 1) (s + 1) e _ d) ≤ _
        omega
    · rw [if_neg hme, List.append_nil]
      unfold lc_k1
      by_cases h8 : q r (3 - (j + 1)) < 8
      · rw [if_pos h8]
        have e1 : (lc_m q w t r (j + 1) s e k).1 = e := by omega
        have hc := lc_m_ch hG h m1 m2 m3 m4 h8
        rw [e1] at hc hp ⊢
        exact ⟨⟨hc, True.intro⟩, lc_B_end hG hA hk h.1 hj2 h.2.2.1 hp.2 h8⟩
      · rw [if_neg h8]
        exact ⟨True.intro, Nat.zero_le _⟩
/-- a node more: the bound falls -/
theorem lc_en_ok (hG : lc_G nt tm R q) (hA : lc_A R q rk) (hk : ∀ x, x < nt → rk x < nt) (hS : lc_sat q w R nt n t) {x s e k d : Nat} {l : List lc_E} (h : lc_ev t nt n ((x, s, e, k, d) :: l)) : lc_ev t nt n (lc_kd q w t (lc_pk q w t R x s e k).1 3 s e (lc_pk q w t R x s e k).2 (d + 1) ++ l) ∧ lc_mu rk (lc_kd q w t (lc_pk q w t R x s e k).1 3 s e (lc_pk q w t R x s e k).2 (d + 1) ++ l) + 1 ≤ lc_mu rk ((x, s, e, k, d) :: l) := by
  obtain ⟨h1, h2⟩ := h
  obtain ⟨p1, p2⟩ := lc_pk_ok hG hS h1
  obtain ⟨k1, k2⟩ := lc_kd_ok (d := d + 1) hG hA hk 2 s e _ p2
  have k3 : lc_mu rk (lc_kd q w t (lc_pk q w t R x s e k).1 3 s e (lc_pk q w t R x s e k).2 (d + 1)) ≤ lc_B rk q (lc_pk q w t R x s e k).1 2 s e := k2
  refine ⟨lc_ev_a k1 h2, ?_⟩
  rw [lc_mu_a, lc_mu_c]
  rw [lc_B_2, p1] at k3
  have := h1.2.1
  omega
/-! I: X's tails -/
def lc_ex (q : Nat → Nat → Nat) (w : Nat → Int32) (t : Nat → Nat) : List lc_L → List lc_E
  | [] => []
  | (r, j, s, e, k, d) :: l => lc_kd q w t r (j + 1) s e k d ++ lc_ex q w t l
def lc_tv (q : Nat → Nat → Nat) (w : Nat → Int32) (t : Nat → Nat) (R n : Nat) : List lc_L → Prop
  | [] => True
  | (r, j, s, e, k, _) :: l => lc_vt q w t R n r j s e k ∧ lc_tv q w t R n l
def lc_mt (rk : Nat → Nat) (q : Nat → Nat → Nat) : List lc_L → Nat
  | [] => 0
  | (r, j, s, e, _, _) :: l => lc_B rk q r j s e + lc_mt rk q l
theorem lc_mt_len (l : List lc_L) (h : lc_tv q w t R n l) : l.length ≤ lc_mt rk q l := by
  induction l with
  | nil => exact Nat.le_refl 0
  | cons a l ih =>
    obtain ⟨r, j, s, e, k, d⟩ := a
    have h1 := ih h.2
    have h2 := lc_B_pos (rk := rk) (q := q) (r := r) (j := j) h.1.2.2.1
    show l.length + 1 ≤ lc_B rk q r j s e + lc_mt rk q l
    omega
end LCC
end
section
section LCN
/-! rows of the kit, pasted -/
theorem pk_us {f : Nat → Int32} {k : Nat} {x : Int32} : upd f k x k = x := if_pos rfl
theorem pk_un {f : Nat → Int32} {k j : Nat} {x : Int32} (h : j ≠ k) : upd f k x j = f j := if_neg h
theorem pk_uLs {f : Nat → Int64} {k : Nat} {x : Int64} : vp_updL f k x k = x := if_pos rfl
theorem pk_uLn {f : Nat → Int64} {k j : Nat} {x : Int64} (h : j ≠ k) : vp_updL f k x j = f j := if_neg h
theorem pk_sub {a b : Nat} (h : b ≤ a) : nI a - nI b = nI (a - b) := by
  obtain ⟨c, rfl⟩ : ∃ c, a = c + b := ⟨a - b, by omega⟩
  rw [← nI_add, Int32.add_sub_cancel, Nat.add_sub_cancel]
theorem pk_m1 (n : Nat) : nI (n + 1) + (-1) = nI n := by
  rw [← nI_1, Int32.add_assoc, show (1 : Int32) + (-1) = 0 from rfl, Int32.add_zero]
theorem pk_mul (a b : Nat) : nI a * nI b = nI (a * b) := (Int32.ofNat_mul a b).symm
theorem pk_div {a d : Nat} (ha : a < 2 ^ 31) (h0 : 0 < d) (hd : d < 2 ^ 31) : nI a / nI d = nI (a / d) := by
  apply Int32.toInt_inj.mp
  rw [lg_idiv_nonneg (by rw [nI_toInt ha]; omega) (by rw [nI_toInt hd]; omega), nI_toInt ha, nI_toInt hd, nI_toInt (Nat.lt_of_le_of_lt (Nat.div_le_self a d) ha)]
  first | rfl | exact (Int.natCast_ediv _ _).symm
theorem pk_rem {a d : Nat} (ha : a < 2 ^ 31) (h0 : 0 < d) (hd : d < 2 ^ 31) : nI a - nI a / nI d * nI d = nI (a % d) := by
  rw [pk_div ha h0 hd, pk_mul, pk_sub (Nat.div_mul_le_self a d)]
  exact congrArg nI (by have := Nat.div_add_mod' a d; omega)
theorem pk_ix (x : Int32) {n : Nat} (hn : n < 2 ^ 31) : x < 0 ∨ nI n ≤ x ∨ ∃ j : Nat, j < n ∧ x = nI j := by
  by_cases h : x < 0
  · exact Or.inl h
  · obtain ⟨j, hj, rfl⟩ := nI_of h
    by_cases h2 : j < n
    · exact Or.inr (Or.inr ⟨j, h2, rfl⟩)
    · exact Or.inr (Or.inl (nI_le (by omega) hj))
theorem pk_le {x y : Int32} {A B : Prop} (a b : Nat) (f : a ≤ b → A) (g : b < a → B) (hx : x = nI a := by rfl) (hy : y = nI b := by rfl) (ha : a < 2 ^ 31 := by omega) (hb : b < 2 ^ 31 := by omega) : (x ≤ y → A) ∧ (¬ x ≤ y → B) := by
  subst hx hy
  rw [nI_leI ha hb]
  exact ⟨f, fun z => g (by omega)⟩
theorem pk_lt {x y : Int32} {A B : Prop} (a b : Nat) (f : a < b → A) (g : b ≤ a → B) (hx : x = nI a := by rfl) (hy : y = nI b := by rfl) (ha : a < 2 ^ 31 := by omega) (hb : b < 2 ^ 31 := by omega) : (x < y → A) ∧ (¬ x < y → B) := by
  subst hx hy
  rw [nI_ltI ha hb]
  exact ⟨f, fun z => g (by omega)⟩
theorem pk_eq {x y : Int32} {A B : Prop} (a b : Nat) (f : a = b → A) (g : a ≠ b → B) (hx : x = nI a := by rfl) (hy : y = nI b := by rfl) (ha : a < 2 ^ 31 := by omega) (hb : b < 2 ^ 31 := by omega) : (x = y → A) ∧ (¬ x = y → B) := by
  subst hx hy
  rw [nI_eq ha hb]
  exact ⟨f, g⟩
theorem pk_in {x : Int32} (n N : Nat) (h : n < N) (hx : x = nI n := by rfl) (hN : N < 2 ^ 31 := by omega) : vp_in x N := by
  subst hx
  exact vp_in_nI h hN
theorem pk_cl {x : Int32} (n : Nat) (hx : x = nI n := by rfl) (h : n < 2 ^ 31 := by omega) : x.toNatClampNeg = n := by
  subst hx
  exact nI_clamp h
theorem pk_lT {n : Nat} (h : n < 2 ^ 63) : (lN n).toInt = (n : Int) := lg_ofNat_toInt h
theorem pk_lLT {a b : Nat} (ha : a < 2 ^ 63) (hb : b < 2 ^ 63) : lN a < lN b ↔ a < b := by
  rw [Int64.lt_iff_toInt_lt, pk_lT ha, pk_lT hb]; omega
theorem pk_lLE {a b : Nat} (ha : a < 2 ^ 63) (hb : b < 2 ^ 63) : lN a ≤ lN b ↔ a ≤ b := by
  rw [Int64.le_iff_toInt_le, pk_lT ha, pk_lT hb]; omega
theorem pk_lEQ {a b : Nat} (ha : a < 2 ^ 63) (hb : b < 2 ^ 63) : lN a = lN b ↔ a = b := by
  rw [← Int64.toInt_inj, pk_lT ha, pk_lT hb]; omega
theorem pk_lDiv {a b : Nat} (ha : a < 2 ^ 63) (h0 : 0 < b) (hb : b < 2 ^ 63) : lN a / lN b = lN (a / b) := by
  apply Int64.toInt_inj.mp
  rw [lg_ldiv_nonneg (by rw [pk_lT ha]; omega) (by rw [pk_lT hb]; omega), pk_lT ha, pk_lT hb, pk_lT (Nat.lt_of_le_of_lt (Nat.div_le_self a b) ha)]
  rfl
theorem pk_lRem {a b : Nat} (ha : a < 2 ^ 63) (h0 : 0 < b) (hb : b < 2 ^ 63) : lN a - lN a / lN b * lN b = lN (a % b) := by
  rw [pk_lDiv ha h0 hb, lN_mul, lN_sub (Nat.div_mul_le_self a b)]
  exact congrArg lN (by have := Nat.div_add_mod' a b; omega)
def bt (x : Int32) (i : Nat) : Bool := x.toBitVec.getLsbD i
theorem b_ext {x y : Int32} (h : ∀ i, i < 32 → bt x i = bt y i) : x = y := Int32.toBitVec_inj.mp (BitVec.eq_of_getLsbD_eq (fun i hi => h i hi))
theorem b_or (x y : Int32) (i : Nat) : bt (x ||| y) i = (bt x i || bt y i) := by unfold bt; rw [Int32.toBitVec_or, BitVec.getLsbD_or]
theorem b_and (x y : Int32) (i : Nat) : bt (x &&& y) i = (bt x i && bt y i) := by unfold bt; rw [Int32.toBitVec_and, BitVec.getLsbD_and]
theorem b_big {x : Int32} {i : Nat} (h : 32 ≤ i) : bt x i = false := BitVec.getLsbD_of_ge _ _ h
theorem b_0 (i : Nat) : bt 0 i = false := BitVec.getLsbD_zero
theorem s_l : ∀ n, n < 32 → ((nI n &&& 31).toBitVec.smod 32).toNat = n := by decide +kernel
theorem b_shl (n : Nat) (hn : n < 32) (x : Int32) {i : Nat} (hi : i < 32) : bt (x <<< (nI n &&& 31)) i = (decide (n ≤ i) && bt x (i - n)) := by
  unfold bt
  rw [Int32.toBitVec_shiftLeft]
  show (x.toBitVec <<< ((nI n &&& 31).toBitVec.smod 32).toNat).getLsbD i = _
  rw [s_l n hn, BitVec.getLsbD_shiftLeft]
  rcases Nat.lt_or_ge i n with h | h
  · simp [h, Nat.not_le.mpr h]
  · simp [hi, h, Nat.not_lt.mpr h]
theorem b_sshr (n : Nat) (hn : n < 32) (x : Int32) {i : Nat} (hi : i < 32) : bt (x >>> (nI n &&& 31)) i = if n + i < 32 then bt x (n + i) else bt x 31 := by
  unfold bt
  rw [Int32.toBitVec_shiftRight]
  show (x.toBitVec.sshiftRight ((nI n &&& 31).toBitVec.smod 32).toNat).getLsbD i = _
  rw [s_l n hn, BitVec.getLsbD_sshiftRight, BitVec.msb_eq_getLsbD_last]
  simp [hi]
/-! numbers of this claim -/
def lc_cd (c : Nat) : Int32 := if c = 16 then -1 else nI c
theorem lc_cd_16 : lc_cd 16 = -1 := if_pos rfl
theorem lc_cd_n {c : Nat} (h : ¬ c = 16) : lc_cd c = nI c := if_neg h
theorem lc_m1 {a : Nat} (h : a < 2 ^ 31) : ¬ nI a = -1 := by
  intro e
  have := nI_pos (n := a) h
  rw [e] at this
  exact this (by decide)
theorem lc_cd_e {c : Nat} (h : c ≤ 16) : lc_cd c = -1 ↔ c = 16 := by
  constructor
  · intro z
    refine Decidable.byContradiction fun hc => ?_
    rw [lc_cd_n hc] at z
    exact lc_m1 (by omega) z
  · intro z; subst z; exact lc_cd_16
def lc_rc (q : Nat → Nat → Nat) : Nat → Int32 := fun j => lc_cd (q (j / 4) (j % 4))
def lc_ra (q : Nat → Nat → Nat) (p : Nat) : Nat → Int32 := fun r => lc_cd (q r p)
def lc_tr (t : Nat → Nat) : Nat → Int32 := fun j => nI (t j)
theorem lc_rc_0 {q : Nat → Nat → Nat} {r : Nat} : lc_rc q (r * 4) = lc_cd (q r 0) := by
  unfold lc_rc; rw [show r * 4 / 4 = r by omega, show r * 4 % 4 = 0 by omega]
theorem lc_rc_p {q : Nat → Nat → Nat} {r p : Nat} (hp : p < 4) : lc_rc q (r * 4 + p) = lc_cd (q r p) := by
  unfold lc_rc; rw [show (r * 4 + p) / 4 = r by omega, show (r * 4 + p) % 4 = p by omega]
theorem lc_x4 (r : Nat) : nI r * 4 = nI (r * 4) := pk_mul r 4
theorem lc_x13 (r : Nat) : nI r * 13 = nI (r * 13) := pk_mul r 13
theorem lc_a2 (r : Nat) : nI r + 2 = nI (r + 2) := nI_add r 2
theorem lc_a3 (r : Nat) : nI r + 3 = nI (r + 3) := nI_add r 3
theorem lc_ixI (x s e : Nat) : nI x * 13 + nI s = nI (x * 13 + s) := by rw [lc_x13, nI_add]
theorem lc_ixN (x s e : Nat) : (nI x * 13 + nI s) * 13 + nI e = nI (lc_ix x s e) := by
  rw [lc_ixI x s e, lc_x13, nI_add]; rfl
theorem lc_tr_up {t : Nat → Nat} {k v : Nat} : upd (lc_tr t) k (nI v) = lc_tr (lc_up t k v) := by
  funext j
  unfold upd lc_tr lc_up
  split <;> rfl
theorem lc_0le {a : Nat} (h : a < 2 ^ 31) : nI a ≤ 0 ↔ a = 0 := by
  rw [← nI_0, nI_leI h (by omega)]; omega
theorem lc_eq0 {a : Nat} (h : a < 2 ^ 31) : nI a = 0 ↔ a = 0 := by
  rw [← nI_0, nI_eq h (by omega)]
/-- a branch by its meaning -/
theorem lc_if {c d A B : Prop} (e : c ↔ d) (f : d → A) (g : ¬ d → B) : (c → A) ∧ (¬ c → B) := ⟨fun h => f (e.mp h), fun h => g (fun z => h (e.mpr z))⟩
theorem lc_at {α : Sort _} {P : α → Prop} {a b : α} (e : a = b) (h : P b) : P a := e ▸ h
/-! bits -/
theorem lc_b_1 : ∀ j, j < 32 → bt 1 j = decide (j = 0) := by decide +kernel
theorem lc_b1 {a i : Nat} (ha : a < 32) (hi : i < 32) : bt ((1 : Int32) <<< (nI a &&& 31)) i = decide (i = a) := by
  rw [b_shl a ha 1 hi]
  by_cases h : a ≤ i
  · rw [lc_b_1 _ (by omega), decide_eq_true h, Bool.true_and]
    exact decide_eq_decide.mpr (by omega)
  · rw [decide_eq_false h, Bool.false_and, decide_eq_false (by omega)]
theorem lc_hb {K : Int32} {i : Nat} (hi : i < 31) : ((K >>> (nI i &&& 31)) &&& 1) = 0 ↔ bt K i = false := by
  have h0 : bt (K >>> (nI i &&& 31)) 0 = bt K i := by
    rw [b_sshr i (by omega) K (by omega), if_pos (by omega), Nat.add_zero]
  constructor
  · intro h
    have e : bt (K >>> (nI i &&& 31) &&& 1) 0 = bt 0 0 := by rw [h]
    rw [b_and, h0, b_0, lc_b_1 0 (by omega)] at e
    simpa using e
  · intro h
    refine b_ext ?_
    intro j hj
    rw [b_and, b_0, lc_b_1 j hj]
    by_cases e : j = 0
    · subst e; rw [h0, h]; rfl
    · rw [decide_eq_false e, Bool.and_false]
def lc_bs (K : Int32) (S : Nat → Bool) : Prop := ∀ i, i < 16 → bt K i = S i
theorem lc_bs_or {K : Int32} {S : Nat → Bool} {c : Nat} (h : lc_bs K S) (hc : c < 16) : lc_bs (K ||| ((1 : Int32) <<< (nI c &&& 31))) (fun i => S i || decide (i = c)) := by
  intro i hi
  rw [b_or, h i hi, lc_b1 (by omega) (by omega)]
/-! longs -/
theorem lc_cpL {x : Nat} (h : x < 2 ^ 62) {P : Int64 → Prop} (hp : P (lN (lc_cp x))) : (lN x ≤ 1000000 → P (lN x)) ∧ (¬ lN x ≤ 1000000 → P 1000000) := by
  have e : (lN x ≤ 1000000) ↔ x ≤ 1000000 := pk_lLE (a := x) (b := 1000000) (by omega) (by omega)
  refine lc_if e (fun z => ?_) (fun z => ?_)
  · rw [lc_cp_id z] at hp; exact hp
  · have : lc_cp x = 1000000 := if_neg (by omega)
    rw [this] at hp; exact hp
end LCN
end
section
section LXA
variable {q : Nat → Nat → Nat} {w : Nat → Int32} {t : Nat → Nat} {nt tm R n : Nat}
variable {xP xC xK xM xL : Int32} {ul wy oR oS oE oD gR gP gS gE gK gD : Nat → Int32}
/-- the form of a rule -/
def lc_fm (nt tm l a b c : Nat) : Prop := l < nt ∧ lc_va nt tm a ∧ ((b = 16 ∧ c = 16) ∨ (lc_va nt tm b ∧ (c = 16 ∨ lc_va nt tm c)))
def lc_Fm (nt tm : Nat) (p0 p1 p2 p3 : Int32) : Prop := ∃ l a b c, lc_fm nt tm l a b c ∧ p0 = nI l ∧ p1 = nI a ∧ p2 = lc_cd b ∧ p3 = lc_cd c
def lc_vN (nt : Nat) (x : Int32) : Prop := ∃ c, c < nt ∧ x = nI c
def lc_vS (nt tm : Nat) (x : Int32) : Prop := ∃ c, lc_va nt tm c ∧ x = nI c
theorem lc_vN_iff {x : Int32} (h8 : nt ≤ 8) : lc_vN nt x ↔ (¬ x < 0 ∧ ¬ nI nt ≤ x) := by
  constructor
  · rintro ⟨c, hc, rfl⟩
    exact ⟨nI_pos (by omega), nI_ge hc (by omega)⟩
  · rintro ⟨h1, h2⟩
    rcases pk_ix x (n := nt) (by omega) with h | h | h
    · exact absurd h h1
    · exact absurd h h2
    · exact h
theorem lc_8t : 8 + nI tm = nI (8 + tm) := nI_add 8 tm
theorem lc_vS_iff {x : Int32} (h8 : nt ≤ 8) (t8 : tm ≤ 8) : lc_vS nt tm x ↔ (lc_vN nt x ∨ (¬ x < 8 ∧ ¬ 8 + nI tm ≤ x)) := by
  rw [lc_8t]
  constructor
  · rintro ⟨c, hc, rfl⟩
    rcases hc with hc | ⟨h1, h2⟩
    · exact Or.inl ⟨c, hc, rfl⟩
    · exact Or.inr ⟨nI_nlt (b := 8) h1 (by omega), nI_ge h2 (by omega)⟩
  · rintro (⟨c, hc, rfl⟩ | ⟨h1, h2⟩)
    · exact ⟨c, Or.inl hc, rfl⟩
    · rcases pk_ix x (n := 8 + tm) (by omega) with h | h | ⟨c, hc, rfl⟩
      · exact absurd (Int32.lt_trans h (by decide)) h1
      · exact absurd h h2
      · refine ⟨c, Or.inr ⟨?_, hc⟩, rfl⟩
        refine Nat.le_of_not_lt fun z => h1 ?_
        exact nI_lt (b := 8) z (by omega)
theorem lx_isN {post : Int32 → Prop} {x : Int32} (h8 : nt ≤ 8) (ht : lc_vN nt x → post 1) (hf : ¬ lc_vN nt x → post 0) : wpX_isNonterminal post ((nI nt), (nI tm), (nI R), (nI n), xP, xC, xK, xM, xL, (lc_rc q), w, ul, (lc_tr t), wy, oR, oS, oE, oD, gR, gP, gS, gE, gK, gD) x := by
  unfold wpX_isNonterminal
  rw [lc_vN_iff h8] at ht hf
  exact br_c (fun h => hf (fun z => z.1 h)) (fun h => br_c (fun h' => hf (fun z => z.2 h')) (fun h' => ht ⟨h, h'⟩))
theorem lx_isS {post : Int32 → Prop} {x : Int32} (h8 : nt ≤ 8) (t8 : tm ≤ 8) (ht : lc_vS nt tm x → post 1) (hf : ¬ lc_vS nt tm x → post 0) : wpX_isSymbol post ((nI nt), (nI tm), (nI R), (nI n), xP, xC, xK, xM, xL, (lc_rc q), w, ul, (lc_tr t), wy, oR, oS, oE, oD, gR, gP, gS, gE, gK, gD) x := by
  unfold wpX_isSymbol
  rw [lc_vS_iff h8 t8] at ht hf
  refine lx_isN h8 (fun hN => ?_) (fun hN => ?_)
  · exact br_f (by decide) (ht (Or.inl hN))
  · refine br_t rfl ?_
    refine br_c (fun h => hf ?_) (fun h => br_c (fun h' => hf ?_) (fun h' => ht (Or.inr ⟨h, h'⟩)))
    · rintro (z | z)
      · exact hN z
      · exact z.1 h
    · rintro (z | z)
      · exact hN z
      · exact z.2 h'
theorem lc_va_16 {c : Nat} (h8 : nt ≤ 8) (t8 : tm ≤ 8) (h : lc_va nt tm c) : c < 16 := by
  unfold lc_va at h; omega
theorem lc_cd_va {c : Nat} (h8 : nt ≤ 8) (t8 : tm ≤ 8) (h : lc_va nt tm c) : lc_cd c = nI c := lc_cd_n (by have := lc_va_16 h8 t8 h; omega)
theorem lc_Fm_iff {p0 p1 p2 p3 : Int32} (h8 : nt ≤ 8) (t8 : tm ≤ 8) : lc_Fm nt tm p0 p1 p2 p3 ↔ lc_vN nt p0 ∧ lc_vS nt tm p1 ∧ ((p2 = -1 ∧ p3 = -1) ∨ (lc_vS nt tm p2 ∧ (p3 = -1 ∨ lc_vS nt tm p3))) := by
  constructor
  · rintro ⟨l, a, b, c, ⟨h1, h2, h3⟩, rfl, rfl, rfl, rfl⟩
    refine ⟨⟨l, h1, rfl⟩, ⟨a, h2, rfl⟩, ?_⟩
    rcases h3 with ⟨rfl, rfl⟩ | ⟨hb, rfl | hc⟩
    · exact Or.inl ⟨lc_cd_16, lc_cd_16⟩
    · exact Or.inr ⟨⟨b, hb, lc_cd_va h8 t8 hb⟩, Or.inl lc_cd_16⟩
    · exact Or.inr ⟨⟨b, hb, lc_cd_va h8 t8 hb⟩, Or.inr ⟨c, hc, lc_cd_va h8 t8 hc⟩⟩
  · rintro ⟨⟨l, h1, rfl⟩, ⟨a, h2, rfl⟩, h3⟩
    rcases h3 with ⟨rfl, rfl⟩ | ⟨⟨b, hb, rfl⟩, rfl | ⟨c, hc, rfl⟩⟩
    · exact ⟨l, a, 16, 16, ⟨h1, h2, Or.inl ⟨rfl, rfl⟩⟩, rfl, rfl, lc_cd_16.symm, lc_cd_16.symm⟩
    · exact ⟨l, a, b, 16, ⟨h1, h2, Or.inr ⟨hb, Or.inl rfl⟩⟩, rfl, rfl, (lc_cd_va h8 t8 hb).symm, lc_cd_16.symm⟩
    · exact ⟨l, a, b, c, ⟨h1, h2, Or.inr ⟨hb, Or.inr hc⟩⟩, rfl, rfl, (lc_cd_va h8 t8 hb).symm, (lc_cd_va h8 t8 hc).symm⟩
theorem lc_vS_m1 {x : Int32} (h8 : nt ≤ 8) (t8 : tm ≤ 8) (h : lc_vS nt tm x) : ¬ x = -1 := by
  obtain ⟨c, hc, rfl⟩ := h
  exact lc_m1 (by have := lc_va_16 h8 t8 hc; omega)
theorem lx_form {post : Int32 → Prop} {p0 p1 p2 p3 : Int32} (h8 : nt ≤ 8) (t8 : tm ≤ 8) (ht : lc_Fm nt tm p0 p1 p2 p3 → post 1) (hf : ¬ lc_Fm nt tm p0 p1 p2 p3 → post 0) : wpX_isRuleForm post ((nI nt), (nI tm), (nI R), (nI n), xP, xC, xK, xM, xL, (lc_rc q), w, ul, (lc_tr t), wy, oR, oS, oE, oD, gR, gP, gS, gE, gK, gD) p0 p1 p2 p3 := by
  unfold wpX_isRuleForm
  rw [lc_Fm_iff h8 t8] at ht hf
  refine lx_isN h8 (fun h0 => ?_) (fun h0 => ?_)
  · refine br_f (by decide) ?_
    refine lx_isS h8 t8 (fun h1 => ?_) (fun h1 => ?_)
    · refine br_f (by decide) ?_
      refine br_c (fun e2 => br_c (fun e3 => ht ⟨h0, h1, Or.inl ⟨e2, e3⟩⟩) (fun e3 => hf ?_)) (fun e2 => ?_)
      · rintro ⟨-, -, z | z⟩
        · exact e3 z.2
        · exact lc_vS_m1 h8 t8 z.1 e2
      · refine lx_isS h8 t8 (fun h2 => ?_) (fun h2 => ?_)
        · refine br_f (by decide) (br_c (fun e3 => ht ⟨h0, h1, Or.inr ⟨h2, Or.inl e3⟩⟩) (fun e3 => ?_))
          refine lx_isS h8 t8 (fun h3 => ?_) (fun h3 => ?_)
          · exact br_f (by decide) (ht ⟨h0, h1, Or.inr ⟨h2, Or.inr h3⟩⟩)
          · refine br_t rfl (hf ?_)
            rintro ⟨-, -, z | z⟩
            · exact e2 z.1
            · rcases z.2 with z | z
              · exact e3 z
              · exact h3 z
        · refine br_t rfl (hf ?_)
          rintro ⟨-, -, z | z⟩
          · exact e2 z.1
          · exact h2 z.1
    · exact br_t rfl (hf (fun z => h1 z.2.1))
  · exact br_t rfl (hf (fun z => h0 z.1))
theorem lx_holds {post : Int32 → Prop} {K : Int32} {i : Nat} (hi : i < 31) (ht : bt K i = true → post 1) (hf : bt K i = false → post 0) : wpX_holds post K (nI i) := by
  unfold wpX_holds
  refine lc_if (lc_hb hi) hf (fun h => ht ?_)
  simpa using h
theorem lx_unit {post : Int32 → Prop} {r : Nat} (hG : lc_G nt tm R q) (h24 : R ≤ 24) (hr : r < R) (ht : q r 1 < 8 → q r 2 = 16 → post 1) (hf : ¬ (q r 1 < 8 ∧ q r 2 = 16) → post 0) : wpX_isUnitRule post ((nI nt), (nI tm), (nI R), (nI n), xP, xC, xK, xM, xL, (lc_rc q), w, ul, (lc_tr t), wy, oR, oS, oE, oD, gR, gP, gS, gE, gK, gD) (nI r) := by
  unfold wpX_isUnitRule
  have h1 := (lc_G_16 hG hr).1
  have h1' := lc_G_r hG hr 1 (by omega)
  have h2 := lc_G_r hG hr 2 (by omega)
  refine nm_r (lc_x4 r) ?_
  have e1 : nI (r * 4) + 1 = nI (r * 4 + 1) := nI_1 _
  have e2 : nI (r * 4) + 2 = nI (r * 4 + 2) := lc_a2 _
  rw [e1, e2, nI_clamp (by omega), nI_clamp (by omega), lc_rc_p (by omega), lc_rc_p (by omega), lc_cd_n h1]
  refine ⟨vp_in_nI (by omega) (by omega), ?_⟩
  refine pk_le 8 (q r 1) (fun h => hf (by omega)) (fun h => ⟨vp_in_nI (by omega) (by omega), ?_⟩)
  exact lc_if (lc_cd_e h2) (fun z => ht h z) (fun z => hf (fun y => z y.2))
theorem lx_cf61 {post : Int32 → Prop} {J7 J19 : Int32 → Int32 → Prop} {x2 x4 K : Int32} {i : Nat} (hG : lc_G nt tm R q) (h24 : R ≤ 24) (hr : i < R) (h : J19 (K ||| ((1 : Int32) <<< (nI (q i 1) &&& 31))) (nI (i + 1))) : wX_cornersFrom_61 post J7 J19 x2 K x4 (nI i) (nI (i * 4)) (nI nt) (nI tm) (nI R) (nI n) xP xC xK xM xL (lc_rc q) w ul (lc_tr t) wy oR oS oE oD gR gP gS gE gK gD := by
  unfold wX_cornersFrom_61
  have h1 := (lc_G_16 hG hr).1
  have e1 : nI (i * 4) + 1 = nI (i * 4 + 1) := nI_1 _
  rw [e1, nI_clamp (by omega), lc_rc_p (by omega), lc_cd_n h1]
  exact ⟨vp_in_nI (by omega) (by omega), nm_e (nm_r (nI_1 i) h)⟩
theorem lx_cf19 {post : Int32 → Prop} {J7 : Int32 → Int32 → Prop} {u : Bool} {k : Nat} {S : Nat → Bool} (hG : lc_G nt tm R q) (h24 : R ≤ 24) (hJ : ∀ K', lc_bs K' (lc_ps u q R S) → J7 K' (nI (k + 1))) : ∀ d i K, i + d = R → lc_bs K (lc_ps u q i S) → wX_cornersFrom_19 post J7 (if u = true then 1 else 0) (nI k) (nI nt) (nI tm) (nI R) (nI n) xP xC xK xM xL (lc_rc q) w ul (lc_tr t) wy oR oS oE oD gR gP gS gE gK gD (d + 1) K (nI i) := by
  intro d
  induction d with
  | zero =>
    intro i K hi hK
    obtain rfl : i = R := by omega
    exact br_t (nI_le (Nat.le_refl _) (by omega)) (nm_r (nI_1 k) (hJ K hK))
  | succ d ih =>
    intro i K hi hK
    have hr : i < R := by omega
    have h0 := (hG.2.2 i hr).1
    have h8 := hG.1
    have h1 := lc_G_r hG hr 1 (by omega)
    have h16 := (lc_G_16 hG hr).1
    rw [wX_cornersFrom_19]
    refine br_f (nI_ge hr (by omega)) (nm_r (lc_x4 i) ?_)
    rw [nI_clamp (by omega), lc_rc_0, lc_cd_n (by omega)]
    refine ⟨vp_in_nI (by omega) (by omega), ?_⟩
    have hin : bt K (q i 0) = lc_ps u q i S (q i 0) := hK _ (by omega)
    have hY : bt K (q i 0) = true → lc_ca u q i → wX_cornersFrom_61 post J7 (wX_cornersFrom_19 post J7 (if u = true then 1 else 0) (nI k) (nI nt) (nI tm) (nI R) (nI n) xP xC xK xM xL (lc_rc q) w ul (lc_tr t) wy oR oS oE oD gR gP gS gE gK gD (d + 1)) (if u = true then 1 else 0) K (nI k) (nI i) (nI (i * 4)) (nI nt) (nI tm) (nI R) (nI n) xP xC xK xM xL (lc_rc q) w ul (lc_tr t) wy oR oS oE oD gR gP gS gE gK gD := by
      intro hb hc
      refine lx_cf61 hG h24 hr (ih (i + 1) _ (by omega) ?_)
      show lc_bs _ (lc_st u q i (lc_ps u q i S))
      rw [lc_st_t (by rw [← hin]; exact hb) hc]
      exact lc_bs_or hK (by omega)
    have hN : ¬ (bt K (q i 0) = true ∧ lc_ca u q i) → wX_cornersFrom_19 post J7 (if u = true then 1 else 0) (nI k) (nI nt) (nI tm) (nI R) (nI n) xP xC xK xM xL (lc_rc q) w ul (lc_tr t) wy oR oS oE oD gR gP gS gE gK gD (d + 1) K (nI (i + 1)) := by
      intro hc
      refine ih (i + 1) K (by omega) ?_
      show lc_bs K (lc_st u q i (lc_ps u q i S))
      rw [lc_st_f (by rw [← hin]; exact hc)]
      exact hK
    refine lx_holds (by omega) (fun hb => ?_) (fun hb => ?_)
    · refine br_f (by decide) ?_
      cases u with
      | false => exact br_t rfl (hY hb (fun z => by cases z))
      | true =>
        refine br_f (by decide) ?_
        refine lx_unit hG h24 hr (fun z1 z2 => ?_) (fun z => ?_)
        · exact br_f (by decide) (hY hb (fun _ => ⟨z1, z2⟩))
        · exact br_t rfl (nm_r (nI_1 i) (hN (fun y => z (y.2 rfl))))
    · refine br_t rfl (nm_r (nI_1 i) (hN (fun y => ?_)))
      rw [hb] at y
      exact absurd y.1 (by decide)
theorem lx_cf7 {post : Int32 → Prop} {u : Bool} {S : Nat → Bool} (hG : lc_G nt tm R q) (h24 : R ≤ 24) (hp : ∀ K', lc_bs K' (lc_it u q R nt S) → post K') : ∀ d k K, k + d = nt → lc_bs K (lc_it u q R k S) → wX_cornersFrom_7 post (if u = true then 1 else 0) (nI nt) (nI tm) (nI R) (nI n) xP xC xK xM xL (lc_rc q) w ul (lc_tr t) wy oR oS oE oD gR gP gS gE gK gD (d + 1) K (nI k) := by
  intro d
  induction d with
  | zero =>
    intro k K hk hK
    obtain rfl : k = nt := by omega
    have h8 := hG.1
    exact br_t (nI_le (Nat.le_refl _) (by omega)) (hp K hK)
  | succ d ih =>
    intro k K hk hK
    have h8 := hG.1
    rw [wX_cornersFrom_7]
    refine br_f (nI_ge (by omega) (by omega)) ⟨R + 1, ?_⟩
    exact lx_cf19 (S := lc_it u q R k S) hG h24 (fun K' hK' => ih (k + 1) K' (by omega) hK') R 0 K (by omega) hK
theorem lx_cf {post : Int32 → Prop} {u : Bool} {a : Nat} (hG : lc_G nt tm R q) (h24 : R ≤ 24) (ha : a < 16) (hp : ∀ K', lc_bs K' (lc_it u q R nt (fun i => decide (i = a))) → post K') : wpX_cornersFrom post ((nI nt), (nI tm), (nI R), (nI n), xP, xC, xK, xM, xL, (lc_rc q), w, ul, (lc_tr t), wy, oR, oS, oE, oD, gR, gP, gS, gE, gK, gD) (nI a) (if u = true then 1 else 0) := by
  unfold wpX_cornersFrom
  refine nm_e ⟨nt + 1, ?_⟩
  exact lx_cf7 hG h24 hp nt 0 _ (by omega) (fun i hi => lc_b1 (by omega) (by omega))
/-- the set of a's corners -/
def lc_co (u : Bool) (q : Nat → Nat → Nat) (R nt a : Nat) : Nat → Bool := lc_it u q R nt (fun i => decide (i = a))
theorem lx_cyc {post : Int32 → Prop} {l : Nat} {a : Nat} (hG : lc_G nt tm R q) (h24 : R ≤ 24) (hl : l < nt) (ha : lc_va nt tm a) (ht : a < nt → lc_co true q R nt a l = true → post 1) (hf : (a < nt → lc_co true q R nt a l = false) → post 0) : wpX_closesUnitCycle post ((nI nt), (nI tm), (nI R), (nI n), xP, xC, xK, xM, xL, (lc_rc q), w, ul, (lc_tr t), wy, oR, oS, oE, oD, gR, gP, gS, gE, gK, gD) (nI l) (nI a) := by
  unfold wpX_closesUnitCycle
  have h8 := hG.1
  have h16 := lc_va_16 hG.1 hG.2.1 ha
  refine lx_isN h8 (fun hN => ?_) (fun hN => ?_)
  · obtain ⟨c, hc, e⟩ := hN
    have ha : a = c := (nI_eq (by omega) (by omega)).mp e
    subst ha
    refine br_f (by decide) ?_
    refine lx_cf (u := true) hG h24 h16 (fun K' hK' => ?_)
    refine lx_holds (by omega) (fun hb => ?_) (fun hb => ?_)
    · refine ⟨rfl, ht hc ?_⟩
      rw [hK' l (by omega)] at hb; exact hb
    · refine ⟨rfl, hf (fun _ => ?_)⟩
      rw [hK' l (by omega)] at hb; exact hb
  · refine br_t rfl (hf (fun z => absurd ⟨a, z, rfl⟩ hN))
theorem lx_add44 {post : Int32 → SX → Prop} {l a b c : Nat} (h24 : R < 24) (hp : post (nI R) ((nI nt), (nI tm), (nI (R + 1)), (nI n), 0, xC, (-1), 0, xL, (lc_rc (lc_add q R l a b c)), w, ul, (lc_tr t), wy, oR, oS, oE, oD, gR, gP, gS, gE, gK, gD)) (e0 : lc_cd l = nI l) (e1 : lc_cd a = nI a) : wX_addRule_44 post (nI l) (nI a) (lc_cd b) (lc_cd c) (nI nt) (nI tm) (nI R) (nI n) xP xC xK xM xL (lc_rc q) w ul (lc_tr t) wy oR oS oE oD gR gP gS gE gK gD := by
  unfold wX_addRule_44
  refine nm_r (lc_x4 R) ?_
  have i1 : nI (R * 4) + 1 = nI (R * 4 + 1) := nI_1 _
  have i2 : nI (R * 4) + 2 = nI (R * 4 + 2) := lc_a2 _
  have i3 : nI (R * 4) + 3 = nI (R * 4 + 3) := lc_a3 _
  rw [i1, i2, i3, nI_clamp (by omega), nI_clamp (by omega), nI_clamp (by omega), nI_clamp (by omega)]
  refine ⟨vp_in_nI (by omega) (by omega), nm_e ⟨vp_in_nI (by omega) (by omega), nm_e ⟨vp_in_nI (by omega) (by omega), nm_e ⟨vp_in_nI (by omega) (by omega), nm_e (nm_r (nI_1 R) ?_)⟩⟩⟩⟩
  have e : upd (upd (upd (upd (lc_rc q) (R * 4) (nI l)) (R * 4 + 1) (nI a)) (R * 4 + 2) (lc_cd b)) (R * 4 + 3) (lc_cd c) = lc_rc (lc_add q R l a b c) := by
    funext j
    unfold upd lc_rc lc_add
    by_cases hj : j / 4 = R
    · have : j % 4 = 0 ∨ j % 4 = 1 ∨ j % 4 = 2 ∨ j % 4 = 3 := by omega
      rcases this with z | z | z | z
      · rw [if_neg (by omega), if_neg (by omega), if_neg (by omega), if_pos (by omega), if_pos hj, if_pos z, e0]
      · rw [if_neg (by omega), if_neg (by omega), if_pos (by omega), if_pos hj, if_neg (by omega), if_pos z, e1]
      · rw [if_neg (by omega), if_pos (by omega), if_pos hj, if_neg (by omega), if_neg (by omega), if_pos z]
      · rw [if_pos (by omega), if_pos hj, if_neg (by omega), if_neg (by omega), if_neg (by omega)]
    · rw [if_neg (by omega), if_neg (by omega), if_neg (by omega), if_neg (by omega), if_neg hj]
  rw [e]
  exact hp
/-- X's addRule -/
theorem lx_addRule {post : Int32 → SX → Prop} {p0 p1 p2 p3 : Int32} (hG : lc_G nt tm R q) (h24 : R ≤ 24)
    (h2 : ¬ lc_Fm nt tm p0 p1 p2 p3 → post (-2) ((nI nt), (nI tm), (nI R), (nI n), xP, xC, xK, xM, xL, (lc_rc q), w, ul, (lc_tr t), wy, oR, oS, oE, oD, gR, gP, gS, gE, gK, gD))
    (h3 : lc_Fm nt tm p0 p1 p2 p3 → R = 24 → post (-3) ((nI nt), (nI tm), (nI R), (nI n), xP, xC, xK, xM, xL, (lc_rc q), w, ul, (lc_tr t), wy, oR, oS, oE, oD, gR, gP, gS, gE, gK, gD))
    (h4 : ∀ l a, lc_fm nt tm l a 16 16 → p0 = nI l → p1 = nI a → p2 = -1 → p3 = -1 → R < 24 → a < nt → lc_co true q R nt a l = true → post (-4) ((nI nt), (nI tm), (nI R), (nI n), xP, xC, xK, xM, xL, (lc_rc q), w, ul, (lc_tr t), wy, oR, oS, oE, oD, gR, gP, gS, gE, gK, gD))
    (h0 : ∀ l a b c, lc_fm nt tm l a b c → p0 = nI l → p1 = nI a → p2 = lc_cd b → p3 = lc_cd c → R < 24 → (b = 16 → a < nt → lc_co true q R nt a l = false) → post (nI R) ((nI nt), (nI tm), (nI (R + 1)), (nI n), 0, xC, (-1), 0, xL, (lc_rc (lc_add q R l a b c)), w, ul, (lc_tr t), wy, oR, oS, oE, oD, gR, gP, gS, gE, gK, gD)) :
    wpX_addRule post ((nI nt), (nI tm), (nI R), (nI n), xP, xC, xK, xM, xL, (lc_rc q), w, ul, (lc_tr t), wy, oR, oS, oE, oD, gR, gP, gS, gE, gK, gD) p0 p1 p2 p3 := by
  unfold wpX_addRule
  have h8 := hG.1
  have t8 := hG.2.1
  refine lx_form h8 t8 (fun hF => ?_) (fun hF => ?_)
  · refine br_f (by decide) ?_
    have hF' := hF
    obtain ⟨l, a, b, c, hf, rfl, rfl, rfl, rfl⟩ := hF
    have hf' := hf
    obtain ⟨f1, f2, f3⟩ := hf'
    have hb16 : b ≤ 16 := by
      rcases f3 with ⟨rfl, -⟩ | ⟨z, -⟩
      · omega
      · have := lc_va_16 h8 t8 z; omega
    refine pk_lt R 24 (fun hR => ?_) (fun hR => h3 hF' (by omega))
    refine lc_if (lc_cd_e hb16) (fun e => ?_) (fun e => ?_)
    · subst e
      obtain rfl : c = 16 := by
        rcases f3 with ⟨-, z⟩ | ⟨z, -⟩
        · exact z
        · have := lc_va_16 h8 t8 z; omega
      refine lx_cyc hG h24 f1 f2 (fun ha hc => ?_) (fun hc => ?_)
      · exact br_f (by decide) (h4 l a hf rfl rfl lc_cd_16 lc_cd_16 hR ha hc)
      · exact br_t rfl (lx_add44 hR (h0 l a 16 16 hf rfl rfl rfl rfl hR (fun _ => hc)) (lc_cd_n (by omega)) (lc_cd_va h8 t8 f2))
    · exact lx_add44 hR (h0 l a b c hf rfl rfl rfl rfl hR (fun z => absurd z e)) (lc_cd_n (by omega)) (lc_cd_va h8 t8 f2)
  · exact br_t rfl (h2 hF)
theorem lx_isLC {post : Int32 → Prop} {p0 p1 : Int32} (hG : lc_G nt tm R q) (h24 : R ≤ 24)
    (h0 : ¬ (lc_vN nt p0 ∧ lc_vS nt tm p1) → post 0)
    (h1 : ∀ a b, a < nt → lc_va nt tm b → p0 = nI a → p1 = nI b → post (if lc_co false q R nt a b = true then 1 else 0)) :
    wpX_isLeftCorner post ((nI nt), (nI tm), (nI R), (nI n), xP, xC, xK, xM, xL, (lc_rc q), w, ul, (lc_tr t), wy, oR, oS, oE, oD, gR, gP, gS, gE, gK, gD) p0 p1 := by
  unfold wpX_isLeftCorner
  have h8 := hG.1
  have t8 := hG.2.1
  refine lx_isN h8 (fun hN => ?_) (fun hN => br_t rfl (h0 (fun z => hN z.1)))
  refine br_f (by decide) ?_
  refine lx_isS h8 t8 (fun hS => ?_) (fun hS => br_t rfl (h0 (fun z => hS z.2)))
  refine br_f (by decide) ?_
  obtain ⟨a, ha, rfl⟩ := hN
  obtain ⟨b, hb, rfl⟩ := hS
  have hb16 := lc_va_16 h8 t8 hb
  have H := h1 a b ha hb rfl rfl
  refine lx_cf (u := false) hG h24 (by omega) (fun K' hK' => ?_)
  have e : bt K' b = lc_co false q R nt a b := hK' b hb16
  refine lx_holds (by omega) (fun z => ?_) (fun z => ?_)
  · rw [e] at z
    rw [if_pos z] at H
    exact ⟨rfl, H⟩
  · rw [e] at z
    rw [if_neg (by rw [z]; decide)] at H
    exact ⟨rfl, H⟩
end LXA
end
section
section LXB
variable {q : Nat → Nat → Nat} {w : Nat → Int32} {t : Nat → Nat} {nt tm R n : Nat}
variable {xP xC xK xM xL : Int32} {ul wy oR oS oE oD gR gP gS gE gK gD : Nat → Int32}
theorem lx_sym {post : Int32 → Prop} {c s e : Nat} (hc : c < 16) (hs : s < e) (he : e ≤ 12) (h : post (nI (lc_y w t c s e))) : wpX_symbolTrees post ((nI nt), (nI tm), (nI R), (nI n), xP, xC, xK, xM, xL, (lc_rc q), w, ul, (lc_tr t), wy, oR, oS, oE, oD, gR, gP, gS, gE, gK, gD) (nI c) (nI s) (nI e) := by
  unfold wpX_symbolTrees
  unfold lc_y at h
  refine pk_le 8 c (fun h8 => ?_) (fun h8 => ?_)
  · rw [if_neg (by omega)] at h
    have e1 : nI e - nI s = nI (e - s) := pk_sub (by omega)
    have e2 : nI c - 8 = nI (c - 8) := pk_sub (a := c) (b := 8) (by omega)
    rw [e1, e2]
    refine pk_eq (e - s) 1 (fun z => ⟨vp_in_nI (by omega) (by omega), ?_⟩) (fun z => ?_)
    · rw [nI_clamp (by omega)]
      refine br_c (fun z2 => ?_) (fun z2 => ?_)
      · rw [if_pos ⟨by omega, z2⟩] at h; exact h
      · rw [if_neg (fun y => z2 y.2)] at h; exact h
    · rw [if_neg (fun y => z (by omega))] at h; exact h
  · rw [if_pos h8] at h
    have hx := lc_ix_lt (x := c) (s := s) (e := e) h8 (by omega) (by omega)
    rw [lc_ixN, nI_clamp (by omega)]
    exact ⟨vp_in_nI hx (by omega), h⟩
theorem lx_cap {post : Int32 → Prop} {a b c : Nat} (ha : a ≤ 1000000) (hb : b ≤ 1000000) (hc : c ≤ 1000000) (h : post (nI (lc_cp (a + b * c)))) : wpX_cappedSum post (nI a) (nI b) (nI c) := by
  unfold wpX_cappedSum
  have hm : b * c ≤ 1000000 * 1000000 := Nat.mul_le_mul hb hc
  have e1 : (nI a).toInt64 + (nI b).toInt64 * (nI c).toInt64 = lN (a + b * c) := by
    rw [nI_l (by omega), nI_l (by omega), nI_l (by omega), lN_mul, lN_add]
  refine nm_r e1 ?_
  have e2 : (1000000 ≤ lN (a + b * c)) ↔ 1000000 ≤ a + b * c := pk_lLE (a := 1000000) (b := a + b * c) (by omega) (by omega)
  refine lc_if e2 (fun z => ?_) (fun z => ?_)
  · have : lc_cp (a + b * c) = 1000000 := if_neg (by omega)
    rw [this] at h; exact h
  · have : lc_cp (a + b * c) = a + b * c := if_pos (by omega)
    rw [this] at h
    rw [lN_i]; exact h
/-- the ways behind symbol c, before it -/
def lc_pb (w : Nat → Int32) (t : Nat → Nat) (c e : Nat) (v : Nat → Nat) (k : Nat) : Nat := lc_cp (lc_S (fun i => lc_y w t c k i * v i) (k + 1) (e + 1))
theorem lx_pb18 {post : SX → Prop} {J3 : Int32 → (Nat → Int32) → (Nat → Int32) → (Nat → Int32) → (Nat → Int32) → (Nat → Int32) → (Nat → Int32) → (Nat → Int32) → (Nat → Int32) → (Nat → Int32) → (Nat → Int32) → (Nat → Int32) → (Nat → Int32) → (Nat → Int32) → (Nat → Int32) → (Nat → Int32) → Prop} {c k e : Nat} {v : Nat → Nat} (ht : ∀ j, t j ≤ 1000000) (hc : c < 16) (hk : k ≤ e) (he : e ≤ 12) (hv : ∀ i, v i ≤ 1000000) (hw : ∀ i, k < i → i ≤ e → wy i = nI (v i)) (hJ : J3 (nI (k + 1)) (lc_rc q) w ul (lc_tr t) (upd wy k (nI (lc_pb w t c e v k))) oR oS oE oD gR gP gS gE gK gD) :
    ∀ d i, i + d = e + 1 → k + 1 ≤ i → wX_putBefore_18 post J3 (nI c) (nI e) (nI k) (nI nt) (nI tm) (nI R) (nI n) xP xC xK xM xL (lc_rc q) w ul (lc_tr t) wy oR oS oE oD gR gP gS gE gK gD (d + 1) (nI (lc_cp (lc_S (fun i => lc_y w t c k i * v i) (k + 1) i))) (nI i) := by
  intro d
  induction d with
  | zero =>
    intro i hi h1
    obtain rfl : i = e + 1 := by omega
    refine br_t (nI_lt (by omega) (by omega)) ⟨vp_in_nI (by omega) (by omega), ?_⟩
    rw [nI_clamp (by omega)]
    exact nm_e (nm_r (nI_1 k) hJ)
  | succ d ih =>
    intro i hi h1
    rw [wX_putBefore_18]
    have hi2 : i ≤ e := by omega
    have H := ih (i + 1) (by omega) (by omega)
    rw [lc_S_s h1] at H
    refine br_f (nI_nlt hi2 (by omega)) ⟨vp_in_nI (by omega) (by omega), ?_⟩
    have hvi := hv i
    rw [nI_clamp (by omega), hw i (by omega) hi2]
    refine lc_if (lc_0le (by omega)) (fun z => ?_) (fun z => ?_)
    · rw [z, Nat.mul_zero, Nat.add_zero] at H
      exact nm_r (nI_1 i) H
    · refine lx_sym hc (by omega) (by omega) ⟨vp_in_nI (by omega) (by omega), ?_⟩
      refine lx_cap (lc_cp_le _) (lc_y_le ht _ _ _) hvi ?_
      rw [lc_cp_a]
      exact nm_r (nI_1 i) H
theorem lx_pb3 {post : SX → Prop} {c s e : Nat} {v : Nat → Nat} (ht : ∀ j, t j ≤ 1000000) (hc : c < 16) (hs : s ≤ e) (he : e ≤ 12) (hv : ∀ i, v i ≤ 1000000) (hp : ∀ wy', (∀ k, s ≤ k → k ≤ e → wy' k = nI (lc_pb w t c e v k)) → post ((nI nt), (nI tm), (nI R), (nI n), xP, xC, xK, xM, xL, (lc_rc q), w, ul, (lc_tr t), wy', oR, oS, oE, oD, gR, gP, gS, gE, gK, gD)) :
    ∀ d k wy, k + d = e + 1 → s ≤ k → (∀ i, s ≤ i → i < k → wy i = nI (lc_pb w t c e v i)) → (∀ i, k ≤ i → i ≤ e → wy i = nI (v i)) → wX_putBefore_3 post (nI c) (nI e) (nI nt) (nI tm) (nI R) (nI n) xP xC xK xM xL (d + 1) (nI k) (lc_rc q) w ul (lc_tr t) wy oR oS oE oD gR gP gS gE gK gD := by
  intro d
  induction d with
  | zero =>
    intro k wy hk hsk h1 h2
    obtain rfl : k = e + 1 := by omega
    exact br_t (nI_lt (by omega) (by omega)) (hp wy (fun i a b => h1 i a (by omega)))
  | succ d ih =>
    intro k wy hk hsk h1 h2
    rw [wX_putBefore_3]
    refine br_f (nI_nlt (by omega) (by omega)) (nm_r (nI_1 k) ⟨e - k + 1, ?_⟩)
    have h0 : lc_S (fun i => lc_y w t c k i * v i) (k + 1) (k + 1) = 0 := lc_S_0 (Nat.le_refl _)
    have H := lx_pb18 (post := post) (J3 := wX_putBefore_3 post (nI c) (nI e) (nI nt) (nI tm) (nI R) (nI n) xP xC xK xM xL (d + 1)) (xP := xP) (xC := xC) (xK := xK) (xM := xM) (xL := xL) (nt := nt) (tm := tm) (R := R) (n := n) (q := q) (w := w) (t := t) (ul := ul) (wy := wy) (oR := oR) (oS := oS) (oE := oE) (oD := oD) (gR := gR) (gP := gP) (gS := gS) (gE := gE) (gK := gK) (gD := gD) (c := c) (k := k) (e := e) (v := v) ht hc (by omega) he hv (fun i a b => h2 i (by omega) b) ?_ (e - k) (k + 1) (by omega) (by omega)
    · rw [h0] at H
      exact H
    · refine ih (k + 1) _ (by omega) (by omega) ?_ ?_
      · intro i a b
        by_cases z : i = k
        · subst z; exact pk_us
        · rw [pk_un z]; exact h1 i a (by omega)
      · intro i a b
        rw [pk_un (by omega)]; exact h2 i (by omega) b
theorem lx_put {post : SX → Prop} {c s e : Nat} {v : Nat → Nat} (ht : ∀ j, t j ≤ 1000000) (hc : c < 16) (hs : s ≤ e) (he : e ≤ 12) (hv : ∀ i, v i ≤ 1000000) (hw : ∀ i, s ≤ i → i ≤ e → wy i = nI (v i)) (hp : ∀ wy', (∀ k, s ≤ k → k ≤ e → wy' k = nI (lc_pb w t c e v k)) → post ((nI nt), (nI tm), (nI R), (nI n), xP, xC, xK, xM, xL, (lc_rc q), w, ul, (lc_tr t), wy', oR, oS, oE, oD, gR, gP, gS, gE, gK, gD)) : wpX_putBefore post ((nI nt), (nI tm), (nI R), (nI n), xP, xC, xK, xM, xL, (lc_rc q), w, ul, (lc_tr t), wy, oR, oS, oE, oD, gR, gP, gS, gE, gK, gD) (nI c) (nI s) (nI e) := by
  unfold wpX_putBefore
  exact ⟨e + 1 - s + 1, lx_pb3 ht hc hs he hv hp (e + 1 - s) s wy (by omega) (Nat.le_refl _) (fun i a b => by omega) hw⟩
/-- the last i symbols of rule r stand in the ways -/
theorem lx_tt35 {post : Int32 → SX → Prop} {r j s e : Nat} (hG : lc_G nt tm R q) (h24 : R ≤ 24) (ht : ∀ j, t j ≤ 1000000) (hr : r < R) (hj : j ≤ 3) (hs : s ≤ e) (he : e ≤ 12) (hp : ∀ wy', post (nI (lc_w q w t r j s e)) ((nI nt), (nI tm), (nI R), (nI n), xP, xC, xK, xM, xL, (lc_rc q), w, ul, (lc_tr t), wy', oR, oS, oE, oD, gR, gP, gS, gE, gK, gD)) :
    ∀ d i wy, i + d = j → (∀ k, s ≤ k → k ≤ e → wy k = nI (lc_w q w t r i k e)) → wX_tailTrees_35 post (nI r) (nI (4 - j)) (nI s) (nI e) (d + 1) (nI (3 - i)) (nI nt) (nI tm) (nI R) (nI n) xP xC xK xM xL (lc_rc q) w ul (lc_tr t) wy oR oS oE oD gR gP gS gE gK gD := by
  intro d
  induction d with
  | zero =>
    intro i wy hi h
    obtain rfl : i = j := by omega
    refine br_t (nI_lt (by omega) (by omega)) ⟨vp_in_nI (by omega) (by omega), ?_⟩
    rw [nI_clamp (by omega), h s (Nat.le_refl _) hs]
    exact hp wy
  | succ d ih =>
    intro i wy hi h
    rw [wX_tailTrees_35]
    have ei : nI r * 4 + nI (3 - i) = nI (r * 4 + (3 - i)) := by rw [lc_x4, nI_add]
    have ed : nI (3 - i) + (-1) = nI (3 - (i + 1)) := by
      rw [show 3 - i = 3 - (i + 1) + 1 by omega]; exact pk_m1 _
    refine br_f (nI_nlt (by omega) (by omega)) ?_
    rw [ei, nI_clamp (by omega), lc_rc_p (by omega)]
    refine ⟨vp_in_nI (by omega) (by omega), nm_e ?_⟩
    have h16 := lc_G_r hG hr (3 - i) (by omega)
    refine lc_if (lc_cd_e h16) (fun z => ?_) (fun z => ?_)
    · refine nm_r ed (ih (i + 1) wy (by omega) ?_)
      intro k a b
      rw [lc_w_n z]; exact h k a b
    · rw [lc_cd_n z]
      refine lx_put ht (by omega) hs he (v := fun k => lc_w q w t r i k e) (fun k => lc_w_le _ _ _) h (fun wy' hw' => ?_)
      refine nm_r ed (ih (i + 1) wy' (by omega) ?_)
      intro k a b
      rw [lc_w_s z]; exact hw' k a b
theorem lx_tt3 {post : Int32 → SX → Prop} {r j s e : Nat} (hG : lc_G nt tm R q) (h24 : R ≤ 24) (ht : ∀ j, t j ≤ 1000000) (hr : r < R) (hj : j ≤ 3) (hs : s ≤ e) (he : e ≤ 12) (hp : ∀ wy', post (nI (lc_w q w t r j s e)) ((nI nt), (nI tm), (nI R), (nI n), xP, xC, xK, xM, xL, (lc_rc q), w, ul, (lc_tr t), wy', oR, oS, oE, oD, gR, gP, gS, gE, gK, gD)) :
    ∀ d k wy, k + d = e → s ≤ k → (∀ i, s ≤ i → i < k → wy i = nI 0) → wX_tailTrees_3 post (nI r) (nI (4 - j)) (nI s) (nI e) (nI nt) (nI tm) (nI R) (nI n) xP xC xK xM xL (d + 1) (nI k) (lc_rc q) w ul (lc_tr t) wy oR oS oE oD gR gP gS gE gK gD := by
  intro d
  induction d with
  | zero =>
    intro k wy hk hsk h
    obtain rfl : k = e := by omega
    refine br_t (nI_le (Nat.le_refl _) (by omega)) ⟨vp_in_nI (by omega) (by omega), nm_e ⟨j + 1, ?_⟩⟩
    rw [nI_clamp (by omega)]
    refine lx_tt35 hG h24 ht hr hj hs he hp j 0 _ (by omega) ?_
    intro i a b
    rw [lc_w_0]
    by_cases z : i = k
    · subst z; rw [if_pos rfl]; exact pk_us
    · rw [pk_un z, if_neg z]; exact h i a (by omega)
  | succ d ih =>
    intro k wy hk hsk h
    rw [wX_tailTrees_3]
    refine br_f (nI_ge (by omega) (by omega)) ⟨vp_in_nI (by omega) (by omega), nm_e (nm_r (nI_1 k) ?_)⟩
    rw [nI_clamp (by omega)]
    refine ih (k + 1) _ (by omega) (by omega) ?_
    intro i a b
    by_cases z : i = k
    · subst z; exact pk_us
    · rw [pk_un z]; exact h i a (by omega)
theorem lx_tail {post : Int32 → SX → Prop} {r j s e : Nat} (hG : lc_G nt tm R q) (h24 : R ≤ 24) (ht : ∀ j, t j ≤ 1000000) (hr : r < R) (hj : j ≤ 3) (hs : s ≤ e) (he : e ≤ 12) (hp : ∀ wy', post (nI (lc_w q w t r j s e)) ((nI nt), (nI tm), (nI R), (nI n), xP, xC, xK, xM, xL, (lc_rc q), w, ul, (lc_tr t), wy', oR, oS, oE, oD, gR, gP, gS, gE, gK, gD)) : wpX_tailTrees post ((nI nt), (nI tm), (nI R), (nI n), xP, xC, xK, xM, xL, (lc_rc q), w, ul, (lc_tr t), wy, oR, oS, oE, oD, gR, gP, gS, gE, gK, gD) (nI r) (nI (4 - j)) (nI s) (nI e) := by
  unfold wpX_tailTrees
  exact ⟨e - s + 1, lx_tt3 hG h24 ht hr hj hs he hp (e - s) s wy (by omega) (Nat.le_refl _) (fun i a b => by omega)⟩
theorem lx_cc6 {post : SX → Prop} {x s e : Nat} (hG : lc_G nt tm R q) (h24 : R ≤ 24) (ht : ∀ j, t j ≤ 1000000) (hx : x < 8) (hs : s < e) (he : e ≤ 12) (hp : ∀ wy', post ((nI nt), (nI tm), (nI R), (nI n), xP, xC, xK, xM, xL, (lc_rc q), w, ul, (lc_tr (lc_up t (lc_ix x s e) (lc_n q w t R x s e))), wy', oR, oS, oE, oD, gR, gP, gS, gE, gK, gD)) :
    ∀ d i wy, i + d = R → wX_countCell_6 post (nI x) (nI s) (nI e) (d + 1) (nI (lc_cp (lc_S (lc_g q w t x s e) 0 i))) (nI i) (nI nt) (nI tm) (nI R) (nI n) xP xC xK xM xL (lc_rc q) w ul (lc_tr t) wy oR oS oE oD gR gP gS gE gK gD := by
  intro d
  induction d with
  | zero =>
    intro i wy hi
    obtain rfl : i = R := by omega
    have hl := lc_ix_lt (x := x) (s := s) (e := e) hx (by omega) (by omega)
    refine br_t (nI_le (Nat.le_refl _) (by omega)) ?_
    rw [lc_ixN, nI_clamp (by omega), lc_tr_up]
    exact ⟨vp_in_nI hl (by omega), nm_e (hp wy)⟩
  | succ d ih =>
    intro i wy hi
    have hr : i < R := by omega
    have h0 := (hG.2.2 i hr).1
    have h8 := hG.1
    rw [wX_countCell_6]
    refine br_f (nI_ge hr (by omega)) ?_
    rw [lc_x4, nI_clamp (by omega), lc_rc_0, lc_cd_n (by omega)]
    refine ⟨vp_in_nI (by omega) (by omega), ?_⟩
    refine pk_eq (q i 0) x (fun z => ?_) (fun z => ?_)
    · refine lx_tail (j := 3) hG h24 ht hr (by omega) (by omega) he (fun wy' => ?_)
      refine lx_cap (c := 1) (lc_cp_le _) (lc_w_le _ _ _) (by omega) (nm_r (nI_1 i) ?_)
      have H := ih (i + 1) wy' (by omega)
      rw [lc_S_s (Nat.zero_le i)] at H
      have eg : lc_g q w t x s e i = lc_w q w t i 3 s e := if_pos z
      rw [eg] at H
      rw [lc_cp_a, Nat.mul_one]
      exact H
    · have H := ih (i + 1) wy (by omega)
      rw [lc_S_s (Nat.zero_le i)] at H
      have eg : lc_g q w t x s e i = 0 := if_neg z
      rw [eg, Nat.add_zero] at H
      exact nm_r (nI_1 i) H
theorem lx_cell {post : SX → Prop} {x s e : Nat} (hG : lc_G nt tm R q) (h24 : R ≤ 24) (ht : ∀ j, t j ≤ 1000000) (hx : x < 8) (hs : s < e) (he : e ≤ 12) (hp : ∀ wy', post ((nI nt), (nI tm), (nI R), (nI n), xP, xC, xK, xM, xL, (lc_rc q), w, ul, (lc_tr (lc_up t (lc_ix x s e) (lc_n q w t R x s e))), wy', oR, oS, oE, oD, gR, gP, gS, gE, gK, gD)) : wpX_countCell post ((nI nt), (nI tm), (nI R), (nI n), xP, xC, xK, xM, xL, (lc_rc q), w, ul, (lc_tr t), wy, oR, oS, oE, oD, gR, gP, gS, gE, gK, gD) (nI x) (nI s) (nI e) := by
  unfold wpX_countCell
  exact ⟨R + 1, lx_cc6 hG h24 ht hx hs he hp R 0 wy (by omega)⟩
end LXB
end
section
section LXC
variable {q : Nat → Nat → Nat} {w : Nat → Int32} {t : Nat → Nat} {nt tm R n : Nat} {rk : Nat → Nat}
/-- the cells that are right: shorter spans, spans of this length that begin earlier, and in this span those of lower rank or, at rank L, below x -/
def lc_D (q : Nat → Nat → Nat) (w : Nat → Int32) (R nt n : Nat) (rk : Nat → Nat) (s e L x : Nat) (t : Nat → Nat) : Prop := ∀ x' s' e', x' < nt → s' < e' → e' ≤ n → (e' - s' < e - s ∨ (e' - s' = e - s ∧ s' < s) ∨ (s' = s ∧ e' = e ∧ (rk x' < L ∨ (rk x' = L ∧ x' < x)))) → lc_ok q w R t x' s' e'
theorem lc_D_w (hG : lc_G nt tm R q) (hA : lc_A R q rk) (hn : n ≤ 12) {s e L x : Nat} (hx : x < nt) (hs : s < e) (he : e ≤ n) (h : lc_D q w R nt n rk s e L x t) (hL : L ≤ rk x ∨ lc_ok q w R t x s e) : lc_D q w R nt n rk s e L (x + 1) (lc_up t (lc_ix x s e) (lc_n q w t R x s e)) := by
  by_cases hr : lc_ok q w R t x s e
  · rw [lc_ok_s hr]
    intro x' s' e' h1 h2 h3 h4
    by_cases z : x' = x ∧ s' = s ∧ e' = e
    · obtain ⟨rfl, rfl, rfl⟩ := z; exact hr
    · exact h x' s' e' h1 h2 h3 (by omega)
  · have hL' : L ≤ rk x := by
      rcases hL with z | z
      · exact z
      · exact absurd z hr
    intro x' s' e' h1 h2 h3 h4
    by_cases z : x' = x ∧ s' = s ∧ e' = e
    · obtain ⟨rfl, rfl, rfl⟩ := z
      exact lc_ok_w hG hA (by omega) hs
    · refine lc_ok_k hG hA (by omega) hs (by omega) h2 (by omega) ?_ (h x' s' e' h1 h2 h3 (by omega))
      intro z1 z2
      have z3 : x' ≠ x := fun y => z ⟨y, z1, z2⟩
      refine ⟨?_, z3⟩
      omega
theorem lc_D_s {s e L x : Nat} (h : lc_D q w R nt n rk s e L x t) (hx : rk x ≠ L) : lc_D q w R nt n rk s e L (x + 1) t := by
  intro x' s' e' h1 h2 h3 h4
  refine h x' s' e' h1 h2 h3 ?_
  rcases h4 with z | z | ⟨z1, z2, z3 | ⟨z3, z4⟩⟩
  · exact Or.inl z
  · exact Or.inr (Or.inl z)
  · exact Or.inr (Or.inr ⟨z1, z2, Or.inl z3⟩)
  · refine Or.inr (Or.inr ⟨z1, z2, Or.inr ⟨z3, ?_⟩⟩)
    refine Nat.lt_of_le_of_ne (Nat.le_of_lt_succ z4) ?_
    intro y; subst y; exact hx z3
theorem lc_D_L {s e L : Nat} (h : lc_D q w R nt n rk s e L nt t) : lc_D q w R nt n rk s e (L + 1) 0 t := by
  intro x' s' e' h1 h2 h3 h4
  exact h x' s' e' h1 h2 h3 (by omega)
theorem lc_D_e {s e : Nat} (hk : ∀ x, x < nt → rk x < nt) {L : Nat} (hL : nt ≤ L) (h : lc_D q w R nt n rk s e L 0 t) (hs : s ≤ e) : lc_D q w R nt n rk (s + 1) (e + 1) 0 0 t := by
  intro x' s' e' h1 h2 h3 h4
  have := hk x' h1
  exact h x' s' e' h1 h2 h3 (by omega)
theorem lc_D_r {s l : Nat} (hs : s + l = n + 1) (h : lc_D q w R nt n rk s (s + l) 0 0 t) : lc_D q w R nt n rk 0 (l + 1) 0 0 t := by
  intro x' s' e' h1 h2 h3 h4
  exact h x' s' e' h1 h2 h3 (by omega)
theorem lc_D_0 : lc_D q w R nt n rk 0 1 0 0 t := by
  intro x' s' e' h1 h2 h3 h4
  omega
theorem lc_D_sat (h : lc_D q w R nt n rk 0 (n + 1) 0 0 t) : lc_sat q w R nt n t := by
  intro x s e h1 h2 h3
  exact h x s e h1 h2 h3 (by omega)
theorem lc_up_le {k v : Nat} (ht : ∀ j, t j ≤ 1000000) (hv : v ≤ 1000000) : ∀ j, lc_up t k v j ≤ 1000000 := by
  intro j
  unfold lc_up
  split
  · exact hv
  · exact ht j
def lc_rt (t : Nat → Nat) (n : Nat) : Nat := if n = 0 then 0 else t (lc_ix 0 0 n)
theorem lc_rt_le (ht : ∀ j, t j ≤ 1000000) : lc_rt t n ≤ 1000000 := by
  unfold lc_rt
  split
  · omega
  · exact ht _
variable {xP xC xK xM xL : Int32} {ul wy oR oS oE oD gR gP gS gE gK gD : Nat → Int32}
theorem lx_sl35 {post : SX → Prop} {J25 : Int32 → (Nat → Int32) → (Nat → Int32) → (Nat → Int32) → (Nat → Int32) → (Nat → Int32) → (Nat → Int32) → (Nat → Int32) → (Nat → Int32) → (Nat → Int32) → (Nat → Int32) → (Nat → Int32) → (Nat → Int32) → (Nat → Int32) → (Nat → Int32) → (Nat → Int32) → Prop} {k m : Nat} (hG : lc_G nt tm R q) (h24 : R ≤ 24) (hA : lc_A R q rk) (hk : ∀ x, x < nt → rk x < nt)
    (hJ : ∀ (ul' : Nat → Int32) (lv' : Nat → Nat), (∀ x, x < nt → ul' x = nI (lv' x)) → lc_lv R nt q k R lv' → J25 (nI (m + 1)) (lc_rc q) w ul' (lc_tr t) wy oR oS oE oD gR gP gS gE gK gD) :
    ∀ d i (ul : Nat → Int32) (lv : Nat → Nat), i + d = R → (∀ x, x < nt → ul x = nI (lv x)) → lc_lv R nt q k i lv → wX_setUnitLevels_35 post J25 (nI m) (nI nt) (nI tm) (nI R) (nI n) xP xC xK xM xL (d + 1) (nI i) (lc_rc q) w ul (lc_tr t) wy oR oS oE oD gR gP gS gE gK gD := by
  intro d
  induction d with
  | zero =>
    intro i ul lv hi hu hl
    obtain rfl : i = R := by omega
    exact br_t (nI_le (Nat.le_refl _) (by omega)) (nm_r (nI_1 m) (hJ ul lv hu hl))
  | succ d ih =>
    intro i ul lv hi hu hl
    have hr : i < R := by omega
    have h0 := (hG.2.2 i hr).1
    have h8 := hG.1
    rw [wX_setUnitLevels_35]
    refine br_f (nI_ge hr (by omega)) ?_
    refine lx_unit hG h24 hr (fun z1 z2 => ?_) (fun z => ?_)
    · have hq1 := lc_G_8 hG hr 1 (by omega) z1
      refine br_f (by decide) (nm_r (lc_x4 i) ?_)
      have e1 : nI (i * 4) + 1 = nI (i * 4 + 1) := nI_1 _
      have hb0 := lc_P_rk hA _ _ (hl.1 _ h0)
      have hb1 := lc_P_rk hA _ _ (hl.1 _ hq1)
      have hc0 := hk _ h0
      have hc1 := hk _ hq1
      rw [e1, nI_clamp (by omega), nI_clamp (by omega), lc_rc_p (by omega), lc_rc_0, lc_cd_n (c := q i 0) (by omega), lc_cd_n (c := q i 1) (by omega), nI_clamp (by omega), nI_clamp (by omega), hu _ h0, hu _ hq1]
      have H := lc_lv_up hl hr h0 hq1 z1 z2
      refine ⟨vp_in_nI (by omega) (by omega), vp_in_nI (by omega) (by omega), nm_r (nI_1 _) ⟨vp_in_nI (by omega) (by omega), vp_in_nI (by omega) (by omega), ?_⟩⟩
      refine pk_le (lv (q i 1) + 1) (lv (q i 0)) (fun y => ?_) (fun y => ?_)
      · rw [if_neg (by omega)] at H
        exact nm_r (nI_1 i) (ih (i + 1) ul lv (by omega) hu H)
      · rw [if_pos y] at H
        refine ⟨vp_in_nI (by omega) (by omega), vp_in_nI (by omega) (by omega), nm_e (nm_r (nI_1 i) (ih (i + 1) _ _ (by omega) ?_ H))⟩
        intro x hx
        unfold upd lc_up
        split
        · rfl
        · exact hu x hx
    · exact br_t rfl (nm_r (nI_1 i) (ih (i + 1) ul lv (by omega) hu (lc_lv_no hl z)))
theorem lx_sl25 {post : SX → Prop} (hG : lc_G nt tm R q) (h24 : R ≤ 24) (hA : lc_A R q rk) (hk : ∀ x, x < nt → rk x < nt)
    (hp : ∀ (ul' : Nat → Int32) (lv' : Nat → Nat), (∀ x, x < nt → ul' x = nI (lv' x)) → lc_lv R nt q (nt - 1) 0 lv' → post ((nI nt), (nI tm), (nI R), (nI n), xP, xC, xK, xM, xL, (lc_rc q), w, ul', (lc_tr t), wy, oR, oS, oE, oD, gR, gP, gS, gE, gK, gD)) :
    ∀ d k (ul : Nat → Int32) (lv : Nat → Nat), k + 1 + d = nt → (∀ x, x < nt → ul x = nI (lv x)) → lc_lv R nt q k 0 lv → wX_setUnitLevels_25 post (nI nt) (nI tm) (nI R) (nI n) xP xC xK xM xL (d + 1) (nI (k + 1)) (lc_rc q) w ul (lc_tr t) wy oR oS oE oD gR gP gS gE gK gD := by
  intro d
  induction d with
  | zero =>
    intro k ul lv hi hu hl
    have h8 := hG.1
    have e : k = nt - 1 := by omega
    rw [wX_setUnitLevels_25]
    refine br_t (nI_le (by omega) (by omega)) (hp ul lv hu ?_)
    rw [← e]; exact hl
  | succ d ih =>
    intro k ul lv hi hu hl
    have h8 := hG.1
    rw [wX_setUnitLevels_25]
    refine br_f (nI_ge (by omega) (by omega)) ⟨R + 1, ?_⟩
    exact lx_sl35 hG h24 hA hk (fun ul' lv' hu' hl' => ih (k + 1) ul' lv' (by omega) hu' (lc_lv_n hl')) R 0 ul lv (by omega) hu hl
theorem lx_sl2 {post : SX → Prop} (hG : lc_G nt tm R q) (h24 : R ≤ 24) (h1 : 1 ≤ nt) (hA : lc_A R q rk) (hk : ∀ x, x < nt → rk x < nt)
    (hp : ∀ (ul' : Nat → Int32) (lv' : Nat → Nat), (∀ x, x < nt → ul' x = nI (lv' x)) → lc_lv R nt q (nt - 1) 0 lv' → post ((nI nt), (nI tm), (nI R), (nI n), xP, xC, xK, xM, xL, (lc_rc q), w, ul', (lc_tr t), wy, oR, oS, oE, oD, gR, gP, gS, gE, gK, gD)) :
    ∀ d k (ul : Nat → Int32), k + d = nt → (∀ x, x < k → ul x = nI 0) → wX_setUnitLevels_2 post (nI nt) (nI tm) (nI R) (nI n) xP xC xK xM xL (d + 1) (nI k) (lc_rc q) w ul (lc_tr t) wy oR oS oE oD gR gP gS gE gK gD := by
  intro d
  induction d with
  | zero =>
    intro k ul hi hu
    have h8 := hG.1
    obtain rfl : k = nt := by omega
    rw [wX_setUnitLevels_2]
    refine br_t (nI_le (by omega) (by omega)) ⟨k - 1 + 1, ?_⟩
    exact lx_sl25 hG h24 hA hk hp (k - 1) 0 ul (fun _ => 0) (by omega) hu (lc_lv_0 (fun _ _ => rfl))
  | succ d ih =>
    intro k ul hi hu
    have h8 := hG.1
    rw [wX_setUnitLevels_2]
    refine br_f (nI_ge (by omega) (by omega)) ⟨vp_in_nI (by omega) (by omega), nm_e (nm_r (nI_1 k) ?_)⟩
    rw [nI_clamp (by omega)]
    refine ih (k + 1) _ (by omega) ?_
    intro x hx
    by_cases z : x = k
    · subst z; exact pk_us
    · rw [pk_un z]; exact hu x (by omega)
theorem lx_sl {post : SX → Prop} (hG : lc_G nt tm R q) (h24 : R ≤ 24) (h1 : 1 ≤ nt) (hA : lc_A R q rk) (hk : ∀ x, x < nt → rk x < nt)
    (hp : ∀ (ul' : Nat → Int32) (lv' : Nat → Nat), (∀ x, x < nt → ul' x = nI (lv' x)) → lc_A R q lv' → (∀ x, x < nt → lv' x < nt) → post ((nI nt), (nI tm), (nI R), (nI n), xP, xC, xK, xM, xL, (lc_rc q), w, ul', (lc_tr t), wy, oR, oS, oE, oD, gR, gP, gS, gE, gK, gD)) : wpX_setUnitLevels post ((nI nt), (nI tm), (nI R), (nI n), xP, xC, xK, xM, xL, (lc_rc q), w, ul, (lc_tr t), wy, oR, oS, oE, oD, gR, gP, gS, gE, gK, gD) := by
  unfold wpX_setUnitLevels
  refine ⟨nt + 1, lx_sl2 hG h24 h1 hA hk (fun ul' lv' hu hl => ?_) nt 0 ul (by omega) (fun x hx => by omega)⟩
  have H := lc_lv_end hA hk (fun r hr => (hG.2.2 r hr).1) (fun r hr => lc_G_8 hG hr 1 (by omega)) hl
  exact hp ul' lv' hu H.1 H.2
theorem lx_cs13 {post : SX → Prop} {J2 : Int32 → Int32 → Int32 → Int32 → Int32 → Int32 → Int32 → Int32 → Int32 → Int32 → (Nat → Int32) → (Nat → Int32) → (Nat → Int32) → (Nat → Int32) → (Nat → Int32) → (Nat → Int32) → (Nat → Int32) → (Nat → Int32) → (Nat → Int32) → (Nat → Int32) → (Nat → Int32) → (Nat → Int32) → (Nat → Int32) → (Nat → Int32) → (Nat → Int32) → Prop} {s e L : Nat} (hG : lc_G nt tm R q) (h24 : R ≤ 24) (hn : n ≤ 12) (hA : lc_A R q rk) (hk : ∀ x, x < nt → rk x < nt) (hu : ∀ x, x < nt → ul x = nI (rk x)) (hs : s < e) (he : e ≤ n) (hL : L ≤ 8)
    (hJ : ∀ (wy' : Nat → Int32) (t' : Nat → Nat), (∀ j, t' j ≤ 1000000) → lc_D q w R nt n rk s e L nt t' → J2 (nI (L + 1)) (nI nt) (nI tm) (nI R) (nI n) xP xC xK xM xL (lc_rc q) w ul (lc_tr t') wy' oR oS oE oD gR gP gS gE gK gD) :
    ∀ d x (wy : Nat → Int32) (t : Nat → Nat), x + d = nt → (∀ j, t j ≤ 1000000) → lc_D q w R nt n rk s e L x t → wX_countSpan_13 post J2 (nI s) (nI e) (nI L) (d + 1) (nI x) (nI nt) (nI tm) (nI R) (nI n) xP xC xK xM xL (lc_rc q) w ul (lc_tr t) wy oR oS oE oD gR gP gS gE gK gD := by
  intro d
  induction d with
  | zero =>
    intro x wy t hx ht hD
    have h8 := hG.1
    obtain rfl : x = nt := by omega
    rw [wX_countSpan_13]
    exact br_t (nI_le (Nat.le_refl _) (by omega)) (nm_r (nI_1 L) (hJ wy t ht hD))
  | succ d ih =>
    intro x wy t hx ht hD
    have h8 := hG.1
    have hkx := hk x (by omega)
    rw [wX_countSpan_13]
    refine br_f (nI_ge (by omega) (by omega)) ⟨vp_in_nI (by omega) (by omega), ?_⟩
    rw [nI_clamp (by omega), hu x (by omega)]
    refine pk_eq (rk x) L (fun z => ?_) (fun z => ?_)
    · refine lx_cell hG h24 ht (by omega) hs (by omega) (fun wy' => nm_r (nI_1 x) ?_)
      refine ih (x + 1) wy' _ (by omega) (lc_up_le ht (lc_n_le _ _ _)) ?_
      exact lc_D_w hG hA hn (by omega) hs he hD (Or.inl (by omega))
    · exact nm_r (nI_1 x) (ih (x + 1) wy t (by omega) ht (lc_D_s hD z))
theorem lx_cs2 {post : SX → Prop} {s e : Nat} (hG : lc_G nt tm R q) (h24 : R ≤ 24) (hn : n ≤ 12) (hA : lc_A R q rk) (hk : ∀ x, x < nt → rk x < nt) (hu : ∀ x, x < nt → ul x = nI (rk x)) (hs : s < e) (he : e ≤ n)
    (hp : ∀ (wy' : Nat → Int32) (t' : Nat → Nat), (∀ j, t' j ≤ 1000000) → lc_D q w R nt n rk s e nt 0 t' → post ((nI nt), (nI tm), (nI R), (nI n), xP, xC, xK, xM, xL, (lc_rc q), w, ul, (lc_tr t'), wy', oR, oS, oE, oD, gR, gP, gS, gE, gK, gD)) :
    ∀ d L (wy : Nat → Int32) (t : Nat → Nat), L + d = nt → (∀ j, t j ≤ 1000000) → lc_D q w R nt n rk s e L 0 t → wX_countSpan_2 post (nI s) (nI e) (d + 1) (nI L) (nI nt) (nI tm) (nI R) (nI n) xP xC xK xM xL (lc_rc q) w ul (lc_tr t) wy oR oS oE oD gR gP gS gE gK gD := by
  intro d
  induction d with
  | zero =>
    intro L wy t hx ht hD
    have h8 := hG.1
    obtain rfl : L = nt := by omega
    rw [wX_countSpan_2]
    exact br_t (nI_le (Nat.le_refl _) (by omega)) (hp wy t ht hD)
  | succ d ih =>
    intro L wy t hx ht hD
    have h8 := hG.1
    rw [wX_countSpan_2]
    refine br_f (nI_ge (by omega) (by omega)) ⟨nt + 1, ?_⟩
    exact lx_cs13 hG h24 hn hA hk hu hs he (by omega) (fun wy' t' ht' hD' => ih (L + 1) wy' t' (by omega) ht' (lc_D_L hD')) nt 0 wy t (by omega) ht hD
theorem lx_cs {post : SX → Prop} {s e : Nat} (hG : lc_G nt tm R q) (h24 : R ≤ 24) (hn : n ≤ 12) (hA : lc_A R q rk) (hk : ∀ x, x < nt → rk x < nt) (hu : ∀ x, x < nt → ul x = nI (rk x)) (hs : s < e) (he : e ≤ n) (ht : ∀ j, t j ≤ 1000000) (hD : lc_D q w R nt n rk s e 0 0 t)
    (hp : ∀ (wy' : Nat → Int32) (t' : Nat → Nat), (∀ j, t' j ≤ 1000000) → lc_D q w R nt n rk s e nt 0 t' → post ((nI nt), (nI tm), (nI R), (nI n), xP, xC, xK, xM, xL, (lc_rc q), w, ul, (lc_tr t'), wy', oR, oS, oE, oD, gR, gP, gS, gE, gK, gD)) : wpX_countSpan post ((nI nt), (nI tm), (nI R), (nI n), xP, xC, xK, xM, xL, (lc_rc q), w, ul, (lc_tr t), wy, oR, oS, oE, oD, gR, gP, gS, gE, gK, gD) (nI s) (nI e) := by
  unfold wpX_countSpan
  exact ⟨nt + 1, lx_cs2 hG h24 hn hA hk hu hs he hp nt 0 wy t (by omega) ht hD⟩
theorem lx_pa20 {post : Int32 → SX → Prop} {J10 : Int32 → Int32 → Int32 → Int32 → Int32 → Int32 → Int32 → Int32 → Int32 → Int32 → (Nat → Int32) → (Nat → Int32) → (Nat → Int32) → (Nat → Int32) → (Nat → Int32) → (Nat → Int32) → (Nat → Int32) → (Nat → Int32) → (Nat → Int32) → (Nat → Int32) → (Nat → Int32) → (Nat → Int32) → (Nat → Int32) → (Nat → Int32) → (Nat → Int32) → Prop} {l : Nat} (hG : lc_G nt tm R q) (h24 : R ≤ 24) (hn : n ≤ 12) (hA : lc_A R q rk) (hk : ∀ x, x < nt → rk x < nt) (hu : ∀ x, x < nt → ul x = nI (rk x)) (hl : 1 ≤ l)
    (hJ : ∀ (wy' : Nat → Int32) (t' : Nat → Nat), (∀ j, t' j ≤ 1000000) → lc_D q w R nt n rk 0 (l + 1) 0 0 t' → J10 (nI (l + 1)) (nI nt) (nI tm) (nI R) (nI n) xP xC xK xM xL (lc_rc q) w ul (lc_tr t') wy' oR oS oE oD gR gP gS gE gK gD) :
    ∀ d s (wy : Nat → Int32) (t : Nat → Nat), s + l + d = n + 1 → (∀ j, t j ≤ 1000000) → lc_D q w R nt n rk s (s + l) 0 0 t → wX_parse_20 post J10 (nI l) (d + 1) (nI s) (nI nt) (nI tm) (nI R) (nI n) xP xC xK xM xL (lc_rc q) w ul (lc_tr t) wy oR oS oE oD gR gP gS gE gK gD := by
  intro d
  induction d with
  | zero =>
    intro s wy t hs ht hD
    rw [wX_parse_20]
    exact br_t (by rw [nI_add]; exact nI_lt (by omega) (by omega)) (nm_r (nI_1 l) (hJ wy t ht (lc_D_r (by omega) hD)))
  | succ d ih =>
    intro s wy t hs ht hD
    rw [wX_parse_20]
    refine br_f (by rw [nI_add]; exact nI_nlt (by omega) (by omega)) ?_
    rw [nI_add]
    refine lx_cs hG h24 hn hA hk hu (by omega) (by omega) ht hD (fun wy' t' ht' hD' => nm_r (nI_1 s) ?_)
    refine ih (s + 1) wy' t' (by omega) ht' ?_
    have := lc_D_e hk (Nat.le_refl nt) hD' (by omega)
    rw [show s + 1 + l = s + l + 1 by omega]
    exact this
theorem lx_pa10 {post : Int32 → SX → Prop} (hG : lc_G nt tm R q) (h24 : R ≤ 24) (hn : n ≤ 12) (hA : lc_A R q rk) (hk : ∀ x, x < nt → rk x < nt) (hu : ∀ x, x < nt → ul x = nI (rk x))
    (hp : ∀ (wy' : Nat → Int32) (t' : Nat → Nat), (∀ j, t' j ≤ 1000000) → lc_sat q w R nt n t' → post (nI (lc_rt t' n)) ((nI nt), (nI tm), (nI R), (nI n), 1, (nI (lc_rt t' n)), xK, xM, xL, (lc_rc q), w, ul, (lc_tr t'), wy', oR, oS, oE, oD, gR, gP, gS, gE, gK, gD)) :
    ∀ d l (wy : Nat → Int32) (t : Nat → Nat), l + d = n + 1 → 1 ≤ l → (∀ j, t j ≤ 1000000) → lc_D q w R nt n rk 0 l 0 0 t → wX_parse_10 post (d + 1) (nI l) (nI nt) (nI tm) (nI R) (nI n) xP xC xK xM xL (lc_rc q) w ul (lc_tr t) wy oR oS oE oD gR gP gS gE gK gD := by
  intro d
  induction d with
  | zero =>
    intro l wy t hl h1 ht hD
    obtain rfl : l = n + 1 := by omega
    have H := hp wy t ht (lc_D_sat hD)
    rw [wX_parse_10]
    refine br_t (nI_lt (by omega) (by omega)) ?_
    unfold lc_rt at H
    refine lc_if (lc_eq0 (by omega)) (fun z => ?_) (fun z => ?_)
    · rw [if_pos z] at H; exact H
    · rw [if_neg z] at H
      exact lx_sym (c := 0) (s := 0) (by omega) (by omega) hn H
  | succ d ih =>
    intro l wy t hl h1 ht hD
    rw [wX_parse_10]
    refine br_f (nI_nlt (by omega) (by omega)) ⟨n + 1 - l + 1, ?_⟩
    refine lx_pa20 hG h24 hn hA hk hu h1 (fun wy' t' ht' hD' => ih (l + 1) wy' t' (by omega) (by omega) ht' hD') (n + 1 - l) 0 wy t (by omega) ht ?_
    rw [Nat.zero_add]; exact hD
theorem lx_parse {post : Int32 → SX → Prop} (hG : lc_G nt tm R q) (h24 : R ≤ 24) (h1 : 1 ≤ nt) (hn : n ≤ 12) (hA : lc_A R q rk) (hk : ∀ x, x < nt → rk x < nt) (ht : ∀ j, t j ≤ 1000000)
    (hp : ∀ (ul' wy' : Nat → Int32) (t' : Nat → Nat), (∀ j, t' j ≤ 1000000) → lc_sat q w R nt n t' → post (nI (lc_rt t' n)) ((nI nt), (nI tm), (nI R), (nI n), 1, (nI (lc_rt t' n)), (-1), 0, xL, (lc_rc q), w, ul', (lc_tr t'), wy', oR, oS, oE, oD, gR, gP, gS, gE, gK, gD)) : wpX_parse post ((nI nt), (nI tm), (nI R), (nI n), xP, xC, xK, xM, xL, (lc_rc q), w, ul, (lc_tr t), wy, oR, oS, oE, oD, gR, gP, gS, gE, gK, gD) := by
  unfold wpX_parse
  unfold wpX_forgetParse
  refine lx_sl hG h24 h1 hA hk (fun ul' lv' hu hA' hk' => ?_)
  exact ⟨n + 1, lx_pa10 hG h24 hn hA' hk' hu (fun wy' t' => hp ul' wy' t') n 1 wy t (by omega) (by omega) ht lc_D_0⟩
end LXC
end
section
section LXD
variable {q : Nat → Nat → Nat} {w : Nat → Int32} {t : Nat → Nat} {nt tm R n : Nat} {rk : Nat → Nat}
/-! nodes and tails in arrays -/
def lc_nd (oR oS oE oD : Nat → Int32) (l : List lc_N) : Prop := ∀ i v, l[i]? = some v → oR i = nI v.1 ∧ oS i = nI v.2.1 ∧ oE i = nI v.2.2.1 ∧ oD i = nI v.2.2.2
theorem lc_nd_0 {oR oS oE oD : Nat → Int32} : lc_nd oR oS oE oD [] := by
  intro i v h
  simp at h
theorem lc_nd_a {oR oS oE oD : Nat → Int32} {l : List lc_N} {a b c d : Nat} (h : lc_nd oR oS oE oD l) : lc_nd (upd oR l.length (nI a)) (upd oS l.length (nI b)) (upd oE l.length (nI c)) (upd oD l.length (nI d)) (l ++ [(a, b, c, d)]) := by
  intro i v hv
  by_cases hi : i < l.length
  · rw [List.getElem?_append_left hi] at hv
    have hne : i ≠ l.length := by omega
    rw [pk_un hne, pk_un hne, pk_un hne, pk_un hne]
    exact h i v hv
  · rw [List.getElem?_append_right (by omega)] at hv
    by_cases e : i = l.length
    · subst e
      rw [Nat.sub_self] at hv
      have : v = (a, b, c, d) := by simpa using hv.symm
      subst this
      exact ⟨pk_us, pk_us, pk_us, pk_us⟩
    · exfalso
      obtain ⟨k, hk⟩ : ∃ k, i - l.length = k + 1 := ⟨i - l.length - 1, by omega⟩
      rw [hk] at hv
      simp at hv
def lc_sk (gR gP gS gE gK gD : Nat → Int32) : List lc_L → Prop
  | [] => True
  | (r, j, s, e, k, d) :: l => (gR l.length = nI r ∧ gP l.length = nI (3 - j) ∧ gS l.length = nI s ∧ gE l.length = nI e ∧ gK l.length = nI k ∧ gD l.length = nI d) ∧ lc_sk gR gP gS gE gK gD l
theorem lc_sk_u {gR gP gS gE gK gD : Nat → Int32} {a b c d e f : Int32} : ∀ {l : List lc_L} {i : Nat}, lc_sk gR gP gS gE gK gD l → l.length ≤ i → lc_sk (upd gR i a) (upd gP i b) (upd gS i c) (upd gE i d) (upd gK i e) (upd gD i f) l := by
  intro l
  induction l with
  | nil => intro i _ _; exact True.intro
  | cons x l ih =>
    intro i h hi
    obtain ⟨r, j, s, e, k, d⟩ := x
    have hl : l.length + 1 ≤ i := hi
    have hne : l.length ≠ i := by omega
    obtain ⟨⟨h1, h2, h3, h4, h5, h6⟩, h7⟩ := h
    refine ⟨⟨?_, ?_, ?_, ?_, ?_, ?_⟩, ih h7 (by omega)⟩
    · rw [pk_un hne]; exact h1
    · rw [pk_un hne]; exact h2
    · rw [pk_un hne]; exact h3
    · rw [pk_un hne]; exact h4
    · rw [pk_un hne]; exact h5
    · rw [pk_un hne]; exact h6
theorem lc_sk_p {gR gP gS gE gK gD : Nat → Int32} {l : List lc_L} {r j s e k d : Nat} (h : lc_sk gR gP gS gE gK gD l) : lc_sk (upd gR l.length (nI r)) (upd gP l.length (nI (3 - j))) (upd gS l.length (nI s)) (upd gE l.length (nI e)) (upd gK l.length (nI k)) (upd gD l.length (nI d)) ((r, j, s, e, k, d) :: l) :=
  ⟨⟨pk_us, pk_us, pk_us, pk_us, pk_us, pk_us⟩, lc_sk_u h (Nat.le_refl _)⟩
/-! one symbol taken -/
def lc_t1 (q : Nat → Nat → Nat) (w : Nat → Int32) (t : Nat → Nat) (r j s e k d : Nat) (tl : List lc_L) : List lc_L :=
  if (lc_m q w t r j s e k).1 < e then (r, j - 1, (lc_m q w t r j s e k).1, e, (lc_m q w t r j s e k).2 % lc_w q w t r j (lc_m q w t r j s e k).1 e, d) :: tl else tl
/-- the child of the first symbol: its rule and rank -/
def lc_c1 (q : Nat → Nat → Nat) (w : Nat → Int32) (t : Nat → Nat) (R r j s e k : Nat) : Nat × Nat := lc_pk q w t R (q r (3 - j)) s (lc_m q w t r j s e k).1 ((lc_m q w t r j s e k).2 / lc_w q w t r j (lc_m q w t r j s e k).1 e)
def lc_o2 (q : Nat → Nat → Nat) (w : Nat → Int32) (t : Nat → Nat) (R r j s e k d : Nat) (out : List lc_N) : List lc_N :=
  if q r (3 - j) < 8 then out ++ [((lc_c1 q w t R r j s e k).1, s, (lc_m q w t r j s e k).1, d)] else out
def lc_t2 (q : Nat → Nat → Nat) (w : Nat → Int32) (t : Nat → Nat) (R r j s e k d : Nat) (tl : List lc_L) : List lc_L :=
  if q r (3 - j) < 8 then ((lc_c1 q w t R r j s e k).1, 2, s, (lc_m q w t r j s e k).1, (lc_c1 q w t R r j s e k).2, d + 1) :: lc_t1 q w t r j s e k d tl else lc_t1 q w t r j s e k d tl
theorem lc_mt_c {r j s e k d : Nat} {tl : List lc_L} : lc_mt rk q ((r, j, s, e, k, d) :: tl) = lc_B rk q r j s e + lc_mt rk q tl := rfl
theorem lc_t2_ok (hG : lc_G nt tm R q) (hA : lc_A R q rk) (hk : ∀ x, x < nt → rk x < nt) (hS : lc_sat q w R nt n t) {r j s e k d : Nat} {tl : List lc_L} (h : lc_tv q w t R n ((r, j, s, e, k, d) :: tl)) : lc_tv q w t R n (lc_t2 q w t R r j s e k d tl) ∧ lc_mt rk q (lc_t2 q w t R r j s e k d tl) + 1 ≤ lc_mt rk q ((r, j, s, e, k, d) :: tl) := by
  obtain ⟨hv, htl⟩ := h
  obtain ⟨m1, m2, m3, m4⟩ := lc_m_ok hG hv
  have hp := lc_mp (Nat.lt_of_le_of_lt (Nat.zero_le _) m3)
  have hse := hv.2.2.1
  rw [lc_mt_c]
  unfold lc_t2 lc_t1
  by_cases hme : (lc_m q w t r j s e k).1 < e
  · rw [if_pos hme]
    obtain ⟨j', rfl, hv'⟩ := lc_m_nx hG hv m1 hme m3 m4
    rw [Nat.add_sub_cancel]
    by_cases h8 : q r (3 - (j' + 1)) < 8
    · rw [if_pos h8]
      have hc := lc_m_ch hG hv m1 m2 m3 m4 h8
      obtain ⟨p1, p2⟩ := lc_pk_ok hG hS hc
      refine ⟨⟨p2, hv', htl⟩, ?_⟩
      have hB := lc_B_mid hG hk hv.1 hv.2.1 m1 hme h8
      rw [lc_mt_c, lc_mt_c, lc_B_2]
      unfold lc_c1
      rw [p1]
      omega
    · rw [if_neg h8]
      refine ⟨⟨hv', htl⟩, ?_⟩
      have e3 := lc_m_te h8 hp.1
      have hB := lc_B_ter (rk := rk) (q := q) (r := r) (j := j') (s := s) (e := e) hv.2.1 (by omega)
      rw [lc_mt_c, e3]
      omega
  · rw [if_neg hme]
    have em : (lc_m q w t r j s e k).1 = e := by omega
    by_cases h8 : q r (3 - j) < 8
    · rw [if_pos h8]
      have hc := lc_m_ch hG hv m1 m2 m3 m4 h8
      obtain ⟨p1, p2⟩ := lc_pk_ok hG hS hc
      refine ⟨⟨p2, htl⟩, ?_⟩
      have hw := hp.2
      rw [em] at hw
      have hB := lc_B_end hG hA hk hv.1 hv.2.1 hse hw h8
      rw [lc_mt_c, lc_B_2]
      unfold lc_c1
      rw [p1, em]
      omega
    · rw [if_neg h8]
      refine ⟨htl, ?_⟩
      have := lc_B_pos (rk := rk) (q := q) (r := r) (j := j) hse
      omega
theorem lc_t1_ex (hG : lc_G nt tm R q) {r j s e k d : Nat} {tl : List lc_L} (hv : lc_vt q w t R n r j s e k) : lc_ex q w t ((r, j, s, e, k, d) :: tl) = lc_k1 (q r (3 - j)) s (lc_m q w t r j s e k).1 ((lc_m q w t r j s e k).2 / lc_w q w t r j (lc_m q w t r j s e k).1 e) d ++ lc_ex q w t (lc_t1 q w t r j s e k d tl) := by
  obtain ⟨m1, m2, m3, m4⟩ := lc_m_ok hG hv
  show lc_kd q w t r (j + 1) s e k d ++ lc_ex q w t tl = _
  rw [lc_kd_s, List.append_assoc]
  unfold lc_t1
  by_cases hme : (lc_m q w t r j s e k).1 < e
  · rw [if_pos hme, if_pos hme]
    obtain ⟨j', rfl, hv'⟩ := lc_m_nx hG hv m1 hme m3 m4
    rfl
  · rw [if_neg hme, if_neg hme, List.nil_append]
theorem lc_t2_run (hG : lc_G nt tm R q) {r j s e k d f : Nat} {tl : List lc_L} {out : List lc_N} (hv : lc_vt q w t R n r j s e k) (hf : 1 ≤ f) : ∃ f', f ≤ f' + 1 ∧ out ++ lc_run q w t R f (lc_ex q w t ((r, j, s, e, k, d) :: tl)) = lc_o2 q w t R r j s e k d out ++ lc_run q w t R f' (lc_ex q w t (lc_t2 q w t R r j s e k d tl)) := by
  rw [lc_t1_ex hG hv]
  unfold lc_o2 lc_t2 lc_k1
  by_cases h8 : q r (3 - j) < 8
  · rw [if_pos h8, if_pos h8, if_pos h8]
    obtain ⟨g, rfl⟩ : ∃ g, f = g + 1 := ⟨f - 1, by omega⟩
    refine ⟨g, Nat.le_refl _, ?_⟩
    rw [List.cons_append, List.nil_append, lc_run_s, List.append_assoc]
    rfl
  · rw [if_neg h8, if_neg h8, if_neg h8, List.nil_append]
    exact ⟨f, by omega, rfl⟩
theorem lc_ve_S (hS : lc_sat q w R nt n t) {x s e k : Nat} (h : lc_ve t nt n x s e k) : k < lc_S (lc_g q w t x s e) 0 R ∧ k < 1000000 := by
  obtain ⟨hx, hs, he, hk, hc⟩ := h
  rw [hS x s e hx hs he] at hk hc
  unfold lc_n at hk hc
  rw [lc_cp_lt hc] at hk hc
  exact ⟨hk, by omega⟩
end LXD
end
section
section LXE
variable {q : Nat → Nat → Nat} {w : Nat → Int32} {t : Nat → Nat} {nt tm R n : Nat} {rk : Nat → Nat}
variable {xP xC xK xM xL : Int32} {ul wy oR oS oE oD gR gP gS gE gK gD : Nat → Int32}
theorem lx_push {post : SX → Prop} {l : Nat} {a b c d e f : Int32} (hl : l < 196) (h : post ((nI nt), (nI tm), (nI R), (nI n), xP, xC, xK, xM, (nI (l + 1)), (lc_rc q), w, ul, (lc_tr t), wy, oR, oS, oE, oD, (upd gR l a), (upd gP l b), (upd gS l c), (upd gE l d), (upd gK l e), (upd gD l f))) : wpX_pushTail post ((nI nt), (nI tm), (nI R), (nI n), xP, xC, xK, xM, (nI l), (lc_rc q), w, ul, (lc_tr t), wy, oR, oS, oE, oD, gR, gP, gS, gE, gK, gD) a b c d e f := by
  unfold wpX_pushTail
  have hi : vp_in (nI l) 196 := vp_in_nI hl (by omega)
  have hc : (nI l).toNatClampNeg = l := nI_clamp (by omega)
  refine ⟨hi, nm_r (by rw [hc]) ⟨hi, nm_r (by rw [hc]) ⟨hi, nm_r (by rw [hc]) ⟨hi, nm_r (by rw [hc]) ⟨hi, nm_r (by rw [hc]) ⟨hi, nm_r (by rw [hc]) (nm_r (nI_1 l) h)⟩⟩⟩⟩⟩⟩
theorem lx_on7 {post : SX → Prop} {x s e d m l k : Nat} (hG : lc_G nt tm R q) (h24 : R ≤ 24) (ht : ∀ j, t j ≤ 1000000) (hx : x < 8) (hs : s < e) (he : e ≤ 12) (hm : m < 196) (hl : l < 196)
    (hp : ∀ wy', post ((nI nt), (nI tm), (nI R), (nI n), xP, xC, xK, (nI (m + 1)), (nI (l + 1)), (lc_rc q), w, ul, (lc_tr t), wy', (upd oR m (nI (lc_pk q w t R x s e k).1)), (upd oS m (nI s)), (upd oE m (nI e)), (upd oD m (nI d)), (upd gR l (nI (lc_pk q w t R x s e k).1)), (upd gP l (nI 1)), (upd gS l (nI s)), (upd gE l (nI e)), (upd gK l (nI (lc_pk q w t R x s e k).2)), (upd gD l (nI (d + 1))))) :
    ∀ D i b wy, i + D = R → lc_f (lc_g q w t x s e) D i b = lc_pk q w t R x s e k → b < lc_S (lc_g q w t x s e) i R → b < 1000000 → wX_openNode_7 post (nI x) (nI s) (nI e) (nI d) (D + 1) (nI b) (nI i) (nI nt) (nI tm) (nI R) (nI n) xP xC xK (nI m) (nI l) (lc_rc q) w ul (lc_tr t) wy oR oS oE oD gR gP gS gE gK gD := by
  intro D
  induction D with
  | zero =>
    intro i b wy hi hf hb hb2
    rw [lc_S_0 (by omega)] at hb
    omega
  | succ D ih =>
    intro i b wy hi hf hb hb2
    have hr : i < R := by omega
    have h0 := (hG.2.2 i hr).1
    have h8 := hG.1
    rw [wX_openNode_7]
    refine br_f (nI_ge hr (by omega)) ?_
    rw [lc_x4, nI_clamp (by omega), lc_rc_0, lc_cd_n (by omega)]
    refine ⟨vp_in_nI (by omega) (by omega), ?_⟩
    refine pk_eq (q i 0) x (fun z => ?_) (fun z => ?_)
    · refine lx_tail (j := 3) hG h24 ht hr (by omega) (by omega) he (fun wy' => ?_)
      have eg : lc_g q w t x s e i = lc_w q w t i 3 s e := if_pos z
      have hw := lc_w_le (q := q) (w := w) (t := t) (r := i) 3 s e
      refine pk_le (lc_w q w t i 3 s e) b (fun y => ?_) (fun y => ?_)
      · have hn : ¬ b < lc_g q w t x s e i := by omega
        rw [lc_f_n hn] at hf
        have hb' := lc_S_sub hn hr hb
        rw [eg] at hf hb'
        exact nm_r (pk_sub y) (nm_r (nI_1 i) (ih (i + 1) _ wy' (by omega) hf hb' (by omega)))
      · have hn : b < lc_g q w t x s e i := by omega
        rw [lc_f_t hn] at hf
        rw [← hf] at hp
        have hi : vp_in (nI m) 196 := vp_in_nI hm (by omega)
        have hc : (nI m).toNatClampNeg = m := nI_clamp (by omega)
        refine ⟨hi, nm_r (by rw [hc]) ⟨hi, nm_r (by rw [hc]) ⟨hi, nm_r (by rw [hc]) ⟨hi, nm_r (by rw [hc]) (nm_r (nI_1 m) ?_)⟩⟩⟩⟩
        rw [nI_1 d]
        exact lx_push hl (hp wy')
    · have eg : lc_g q w t x s e i = 0 := if_neg z
      have hn : ¬ b < lc_g q w t x s e i := by omega
      rw [lc_f_n hn] at hf
      have hb' := lc_S_sub hn hr hb
      rw [eg, Nat.sub_zero] at hf hb'
      exact nm_r (nI_1 i) (ih (i + 1) b wy (by omega) hf hb' hb2)
theorem lx_open {post : SX → Prop} {x s e d m l k : Nat} (hG : lc_G nt tm R q) (h24 : R ≤ 24) (hn : n ≤ 12) (ht : ∀ j, t j ≤ 1000000) (hS : lc_sat q w R nt n t) (hv : lc_ve t nt n x s e k) (hm : m < 196) (hl : l < 196)
    (hp : ∀ wy', post ((nI nt), (nI tm), (nI R), (nI n), xP, xC, xK, (nI (m + 1)), (nI (l + 1)), (lc_rc q), w, ul, (lc_tr t), wy', (upd oR m (nI (lc_pk q w t R x s e k).1)), (upd oS m (nI s)), (upd oE m (nI e)), (upd oD m (nI d)), (upd gR l (nI (lc_pk q w t R x s e k).1)), (upd gP l (nI 1)), (upd gS l (nI s)), (upd gE l (nI e)), (upd gK l (nI (lc_pk q w t R x s e k).2)), (upd gD l (nI (d + 1))))) : wpX_openNode post ((nI nt), (nI tm), (nI R), (nI n), xP, xC, xK, (nI m), (nI l), (lc_rc q), w, ul, (lc_tr t), wy, oR, oS, oE, oD, gR, gP, gS, gE, gK, gD) (nI x) (nI s) (nI e) (nI k) (nI d) := by
  unfold wpX_openNode
  have h8 := hG.1
  obtain ⟨h1, h2⟩ := lc_ve_S hS hv
  obtain ⟨v1, v2, v3, -, -⟩ := hv
  exact ⟨R + 1, lx_on7 hG h24 ht (by omega) v2 (by omega) hm hl hp R 0 k wy (by omega) rfl h1 h2⟩
theorem lx_ts90 {post : SX → Prop} {r j s e d k m l c : Nat} (hG : lc_G nt tm R q) (h24 : R ≤ 24) (ht : ∀ j, t j ≤ 1000000) (hr : r < R) (hj : j ≤ 2) (he : e ≤ 12) (hl : l < 196) (hc : c = q r (3 - j)) (hc16 : c < 16)
    (hA : (lc_m q w t r j s e k).1 = e → ∀ wy', wX_takeSymbol_172 post (nI s) (nI d) (nI (lc_m q w t r j s e k).2) (nI c) (nI (lc_m q w t r j s e k).1) (nI (lc_w q w t r j (lc_m q w t r j s e k).1 e)) (nI nt) (nI tm) (nI R) (nI n) xP xC xK (nI m) (nI l) (lc_rc q) w ul (lc_tr t) wy' oR oS oE oD gR gP gS gE gK gD)
    (hB : (lc_m q w t r j s e k).1 < e → ∀ wy', wX_takeSymbol_172 post (nI s) (nI d) (nI (lc_m q w t r j s e k).2) (nI c) (nI (lc_m q w t r j s e k).1) (nI (lc_w q w t r j (lc_m q w t r j s e k).1 e)) (nI nt) (nI tm) (nI R) (nI n) xP xC xK (nI m) (nI (l + 1)) (lc_rc q) w ul (lc_tr t) wy' oR oS oE oD (upd gR l (nI r)) (upd gP l (nI (4 - j))) (upd gS l (nI (lc_m q w t r j s e k).1)) (upd gE l (nI e)) (upd gK l (nI ((lc_m q w t r j s e k).2 % lc_w q w t r j (lc_m q w t r j s e k).1 e))) (upd gD l (nI d))) :
    ∀ D i b wy, i + D = e + 1 → s + 1 ≤ i → lc_f (lc_mf q w t r j s e) D i b = lc_m q w t r j s e k → b < lc_S (lc_mf q w t r j s e) i (e + 1) → b < 1000000 → wX_takeSymbol_90 post (nI r) (nI (3 - j)) (nI s) (nI e) (nI d) (nI c) (D + 1) (nI b) (nI i) (nI nt) (nI tm) (nI R) (nI n) xP xC xK (nI m) (nI l) (lc_rc q) w ul (lc_tr t) wy oR oS oE oD gR gP gS gE gK gD := by
  intro D
  induction D with
  | zero =>
    intro i b wy hi hsi hf hb hb2
    rw [lc_S_0 (by omega)] at hb
    omega
  | succ D ih =>
    intro i b wy hi hsi hf hb hb2
    rw [wX_takeSymbol_90]
    refine br_f (nI_nlt (by omega) (by omega)) ?_
    refine lx_sym hc16 (by omega) (by omega) ?_
    have hy := lc_y_le (w := w) ht c s i
    have hw := lc_w_le (q := q) (w := w) (t := t) (r := r) j i e
    have hmf : lc_mf q w t r j s e i = lc_y w t c s i * lc_w q w t r j i e := by rw [hc]; rfl
    have hN : ∀ wy', ¬ b < lc_mf q w t r j s e i → wX_takeSymbol_90 post (nI r) (nI (3 - j)) (nI s) (nI e) (nI d) (nI c) (D + 1) (nI (b - lc_mf q w t r j s e i)) (nI (i + 1)) (nI nt) (nI tm) (nI R) (nI n) xP xC xK (nI m) (nI l) (lc_rc q) w ul (lc_tr t) wy' oR oS oE oD gR gP gS gE gK gD := by
      intro wy' hn
      rw [lc_f_n hn] at hf
      exact ih (i + 1) _ wy' (by omega) (by omega) hf (lc_S_sub hn (by omega) hb) (by omega)
    refine lc_if (lc_eq0 (by omega)) (fun z => ?_) (fun z => ?_)
    · rw [z, Nat.zero_mul] at hmf
      have H := hN wy (by omega)
      rw [hmf, Nat.sub_zero] at H
      rw [z]
      unfold wX_takeSymbol_129
      refine br_t (by decide) ?_
      unfold wX_takeSymbol_196
      refine nm_r (e' := nI b) ?_ (nm_r (nI_1 i) H)
      rw [show nI 0 * 0 = nI 0 from rfl]
      exact pk_sub (Nat.zero_le b)
    · have e1 : nI (3 - j) + 1 = nI (4 - j) := by rw [nI_1]; congr 1; omega
      rw [e1]
      refine lx_tail hG h24 ht hr (by omega) (by omega) he (fun wy' => ?_)
      unfold wX_takeSymbol_129
      refine lc_if (lc_0le (by omega)) (fun z2 => ?_) (fun z2 => ?_)
      · rw [z2, Nat.mul_zero] at hmf
        have H := hN wy' (by omega)
        rw [hmf, Nat.sub_zero] at H
        rw [z2]
        unfold wX_takeSymbol_196
        refine nm_r (e' := nI b) ?_ (nm_r (nI_1 i) H)
        rw [pk_mul, Nat.mul_zero]
        exact pk_sub (Nat.zero_le b)
      · have hw0 : 0 < lc_w q w t r j i e := by omega
        have hne : ¬ nI (lc_w q w t r j i e) = 0 := nI_ne0 hw0 (by omega)
        have hdl : b / lc_w q w t r j i e ≤ b := Nat.div_le_self _ _
        refine ⟨hne, ?_⟩
        rw [pk_div (by omega) hw0 (by omega)]
        refine pk_le (lc_y w t c s i) (b / lc_w q w t r j i e) (fun y => ?_) (fun y => ?_)
        · have y' : lc_y w t c s i * lc_w q w t r j i e ≤ b := (Nat.le_div_iff_mul_le hw0).mp y
          have H := hN wy' (by omega)
          rw [hmf] at H
          unfold wX_takeSymbol_196
          refine nm_r (e' := nI (b - lc_y w t c s i * lc_w q w t r j i e)) ?_ (nm_r (nI_1 i) H)
          rw [pk_mul, pk_sub y']
        · have y' : b < lc_y w t c s i * lc_w q w t r j i e := (Nat.div_lt_iff_lt_mul hw0).mp y
          have hb3 : b < lc_mf q w t r j s e i := by omega
          rw [lc_f_t hb3] at hf
          rw [← hf] at hA hB
          refine pk_le e i (fun z3 => ?_) (fun z3 => ⟨hne, ?_⟩)
          · exact hA (show i = e by omega) wy'
          · have e2 : nI b - nI (b / lc_w q w t r j i e) * nI (lc_w q w t r j i e) = nI (b % lc_w q w t r j i e) := by
              rw [← pk_div (by omega) hw0 (by omega)]
              exact pk_rem (by omega) hw0 (by omega)
            rw [e1, e2]
            exact lx_push hl (hB z3 wy')
theorem lx_ts172 {post : SX → Prop} {s d b c i rest m l : Nat} (hG : lc_G nt tm R q) (h24 : R ≤ 24) (hn : n ≤ 12) (ht : ∀ j, t j ≤ 1000000) (hS : lc_sat q w R nt n t) (hc16 : c < 16) (hb : b < 1000000) (hr0 : 0 < rest) (hr : rest < 1000001) (hv : c < 8 → lc_ve t nt n c s i (b / rest)) (hm : m < 196) (hl : l < 196)
    (h1 : ¬ c < 8 → post ((nI nt), (nI tm), (nI R), (nI n), xP, xC, xK, (nI m), (nI l), (lc_rc q), w, ul, (lc_tr t), wy, oR, oS, oE, oD, gR, gP, gS, gE, gK, gD))
    (h2 : c < 8 → ∀ wy', post ((nI nt), (nI tm), (nI R), (nI n), xP, xC, xK, (nI (m + 1)), (nI (l + 1)), (lc_rc q), w, ul, (lc_tr t), wy', (upd oR m (nI (lc_pk q w t R c s i (b / rest)).1)), (upd oS m (nI s)), (upd oE m (nI i)), (upd oD m (nI d)), (upd gR l (nI (lc_pk q w t R c s i (b / rest)).1)), (upd gP l (nI 1)), (upd gS l (nI s)), (upd gE l (nI i)), (upd gK l (nI (lc_pk q w t R c s i (b / rest)).2)), (upd gD l (nI (d + 1))))) :
    wX_takeSymbol_172 post (nI s) (nI d) (nI b) (nI c) (nI i) (nI rest) (nI nt) (nI tm) (nI R) (nI n) xP xC xK (nI m) (nI l) (lc_rc q) w ul (lc_tr t) wy oR oS oE oD gR gP gS gE gK gD := by
  unfold wX_takeSymbol_172
  refine pk_le 8 c (fun z => h1 (by omega)) (fun z => ⟨nI_ne0 hr0 (by omega), ?_⟩)
  rw [pk_div (by omega) hr0 (by omega)]
  exact lx_open hG h24 hn ht hS (hv z) hm hl (h2 z)
/-- one symbol taken, over the lists -/
theorem lx_take {post : SX → Prop} {r j s e k d : Nat} {tl : List lc_L} {out : List lc_N} (hG : lc_G nt tm R q) (h24 : R ≤ 24) (hn : n ≤ 12) (ht : ∀ j, t j ≤ 1000000) (hS : lc_sat q w R nt n t) (hv : lc_vt q w t R n r j s e k) (hm : out.length < 196) (hl : tl.length + 1 < 196) (hsk : lc_sk gR gP gS gE gK gD ((r, j, s, e, k, d) :: tl)) (hnd : lc_nd oR oS oE oD out)
    (hp : ∀ wy' oR' oS' oE' oD' gR' gP' gS' gE' gK' gD', lc_nd oR' oS' oE' oD' (lc_o2 q w t R r j s e k d out) → lc_sk gR' gP' gS' gE' gK' gD' (lc_t2 q w t R r j s e k d tl) → post ((nI nt), (nI tm), (nI R), (nI n), xP, xC, xK, (nI (lc_o2 q w t R r j s e k d out).length), (nI (lc_t2 q w t R r j s e k d tl).length), (lc_rc q), w, ul, (lc_tr t), wy', oR', oS', oE', oD', gR', gP', gS', gE', gK', gD')) :
    wpX_takeSymbol post ((nI nt), (nI tm), (nI R), (nI n), xP, xC, xK, (nI out.length), (nI (tl.length + 1)), (lc_rc q), w, ul, (lc_tr t), wy, oR, oS, oE, oD, gR, gP, gS, gE, gK, gD) := by
  obtain ⟨m1, m2, m3, m4⟩ := lc_m_ok hG hv
  have hp0 := lc_mp (Nat.lt_of_le_of_lt (Nat.zero_le _) m3)
  obtain ⟨kS, kC⟩ := lc_vt_S hv
  have hv' := hv
  obtain ⟨hr, hj, hse, hen, h16, -, -⟩ := hv'
  obtain ⟨⟨g1, g2, g3, g4, g5, g6⟩, hsk'⟩ := hsk
  have hq16 := lc_G_r hG hr (3 - j) (by omega)
  have hi : vp_in (nI tl.length) 196 := vp_in_nI (by omega) (by omega)
  have hc : (nI tl.length).toNatClampNeg = tl.length := nI_clamp (by omega)
  have hw := lc_w_le (q := q) (w := w) (t := t) (r := r) j (lc_m q w t r j s e k).1 e
  have ei : nI r * 4 + nI (3 - j) = nI (r * 4 + (3 - j)) := by rw [lc_x4, nI_add]
  have hvi : vp_in (nI r * 4 + nI (3 - j)) 96 := by rw [ei]; exact vp_in_nI (by omega) (by omega)
  unfold wpX_takeSymbol
  rw [← hc] at g1 g2 g3 g4 g5 g6
  refine nm_r (nI_pred tl.length) ⟨hi, nm_r g1 ⟨hi, nm_r g2 ⟨hi, nm_r g3 ⟨hi, nm_r g4 ⟨hi, nm_r g6 ⟨hi, nm_r g5 ⟨hvi, nm_r (e' := nI (q r (3 - j))) (by rw [ei, nI_clamp (by omega), lc_rc_p (by omega), lc_cd_n h16]) (nm_r (nI_1 s) ⟨e - s + 1, ?_⟩)⟩⟩⟩⟩⟩⟩⟩
  refine lx_ts90 (c := q r (3 - j)) hG h24 ht hr hj (by omega) (by omega) rfl (by omega) (fun em wy' => ?_) (fun em wy' => ?_) (e - s) (s + 1) k wy (by omega) (Nat.le_refl _) rfl kS (by omega)
  · refine lx_ts172 hG h24 hn ht hS (by omega) (by omega) hp0.2 (by omega) (fun h8 => lc_m_ch hG hv m1 m2 m3 m4 h8) hm (by omega) (fun h8 => ?_) (fun h8 wy2 => ?_)
    · have e1 : lc_o2 q w t R r j s e k d out = out := if_neg h8
      have e2 : lc_t2 q w t R r j s e k d tl = tl := by unfold lc_t2 lc_t1; rw [if_neg h8, if_neg (by omega)]
      rw [e1, e2] at hp
      exact hp _ _ _ _ _ _ _ _ _ _ _ hnd hsk'
    · have e1 : lc_o2 q w t R r j s e k d out = out ++ [((lc_c1 q w t R r j s e k).1, s, (lc_m q w t r j s e k).1, d)] := if_pos h8
      have e2 : lc_t2 q w t R r j s e k d tl = ((lc_c1 q w t R r j s e k).1, 2, s, (lc_m q w t r j s e k).1, (lc_c1 q w t R r j s e k).2, d + 1) :: tl := by unfold lc_t2 lc_t1; rw [if_pos h8, if_neg (by omega)]
      rw [e1, e2] at hp
      have H := hp wy2 _ _ _ _ _ _ _ _ _ _ (lc_nd_a hnd) (lc_sk_p hsk')
      rw [List.length_append] at H
      exact H
  · refine lx_ts172 hG h24 hn ht hS (by omega) (by omega) hp0.2 (by omega) (fun h8 => lc_m_ch hG hv m1 m2 m3 m4 h8) hm (by omega) (fun h8 => ?_) (fun h8 wy2 => ?_)
    · obtain ⟨j', rfl, hv2⟩ := lc_m_nx hG hv m1 em m3 m4
      have e1 : lc_o2 q w t R r (j' + 1) s e k d out = out := if_neg h8
      have e2 : lc_t2 q w t R r (j' + 1) s e k d tl = (r, j', (lc_m q w t r (j' + 1) s e k).1, e, (lc_m q w t r (j' + 1) s e k).2 % lc_w q w t r (j' + 1) (lc_m q w t r (j' + 1) s e k).1 e, d) :: tl := by unfold lc_t2 lc_t1; rw [if_neg h8, if_pos em]; rfl
      rw [e1, e2] at hp
      have e3 : 4 - (j' + 1) = 3 - j' := by omega
      rw [e3]
      exact hp _ _ _ _ _ _ _ _ _ _ _ hnd (lc_sk_p hsk')
    · obtain ⟨j', rfl, hv2⟩ := lc_m_nx hG hv m1 em m3 m4
      have e1 : lc_o2 q w t R r (j' + 1) s e k d out = out ++ [((lc_c1 q w t R r (j' + 1) s e k).1, s, (lc_m q w t r (j' + 1) s e k).1, d)] := if_pos h8
      have e2 : lc_t2 q w t R r (j' + 1) s e k d tl = ((lc_c1 q w t R r (j' + 1) s e k).1, 2, s, (lc_m q w t r (j' + 1) s e k).1, (lc_c1 q w t R r (j' + 1) s e k).2, d + 1) :: (r, j', (lc_m q w t r (j' + 1) s e k).1, e, (lc_m q w t r (j' + 1) s e k).2 % lc_w q w t r (j' + 1) (lc_m q w t r (j' + 1) s e k).1 e, d) :: tl := by unfold lc_t2 lc_t1; rw [if_pos h8, if_pos em]; rfl
      rw [e1, e2] at hp
      have e3 : 4 - (j' + 1) = 3 - j' := by omega
      rw [e3]
      have H := hp wy2 _ _ _ _ _ _ _ _ _ _ (lc_nd_a hnd) (lc_sk_p (lc_sk_p hsk'))
      rw [List.length_append] at H
      exact H
theorem lx_se58 {post : Int32 → SX → Prop} {rank : Int32} {Lf : List lc_N} (hG : lc_G nt tm R q) (h24 : R ≤ 24) (hn : n ≤ 12) (ht : ∀ j, t j ≤ 1000000) (hS : lc_sat q w R nt n t) (hA : lc_A R q rk) (hk : ∀ x, x < nt → rk x < nt)
    (hp : ∀ xL' wy' oR' oS' oE' oD' gR' gP' gS' gE' gK' gD', lc_nd oR' oS' oE' oD' Lf → Lf.length ≤ 196 → post (nI Lf.length) ((nI nt), (nI tm), (nI R), (nI n), xP, xC, rank, (nI Lf.length), xL', (lc_rc q), w, ul, (lc_tr t), wy', oR', oS', oE', oD', gR', gP', gS', gE', gK', gD')) :
    ∀ N part f (out : List lc_N) (tl : List lc_L) wy oR oS oE oD gR gP gS gE gK gD, lc_tv q w t R n tl → lc_nd oR oS oE oD out → lc_sk gR gP gS gE gK gD tl → part + lc_mt rk q tl ≤ 196 → 1 ≤ part → out.length ≤ part → lc_mt rk q tl ≤ f → lc_mt rk q tl < N → out ++ lc_run q w t R f (lc_ex q w t tl) = Lf → wX_selectTree_58 post rank N (nI part) (nI nt) (nI tm) (nI R) (nI n) xP xC xK (nI out.length) (nI tl.length) (lc_rc q) w ul (lc_tr t) wy oR oS oE oD gR gP gS gE gK gD := by
  intro N
  induction N with
  | zero => intro part f out tl wy oR oS oE oD gR gP gS gE gK gD _ _ _ _ _ _ _ h; omega
  | succ N ih =>
    intro part f out tl wy oR oS oE oD gR gP gS gE gK gD htv hnd hsk hpart hp1 hout hf hN hL
    cases tl with
    | nil =>
      have e1 : lc_run q w t R f (lc_ex q w t []) = [] := lc_run_n
      rw [e1, List.append_nil] at hL
      subst hL
      have hpt : part ≤ 196 := Nat.le_trans (Nat.le_add_right _ _) hpart
      have H := hp (nI 0) wy oR oS oE oD gR gP gS gE gK gD hnd (by omega)
      rw [wX_selectTree_58]
      refine br_c (fun _ => H) (fun _ => br_t ?_ H)
      show nI 0 ≤ 0
      decide
    | cons a tl =>
      obtain ⟨r, j, s, e, k, d⟩ := a
      obtain ⟨o1, o2⟩ := lc_t2_ok (d := d) (tl := tl) hG hA hk hS htv
      have hlen := lc_mt_len (rk := rk) ((r, j, s, e, k, d) :: tl) htv
      have hlen' : tl.length + 1 ≤ lc_mt rk q ((r, j, s, e, k, d) :: tl) := hlen
      rw [wX_selectTree_58]
      refine br_f (nI_ge (b := 196) (by omega) (by decide)) (br_f ?_ ?_)
      · show ¬ nI (tl.length + 1) ≤ 0
        exact nI_nle (by omega) (by omega)
      · obtain ⟨f', hf', hrun⟩ := lc_t2_run (f := f) (d := d) (tl := tl) (out := out) hG htv.1 (by omega)
        rw [hrun] at hL
        refine lx_take hG h24 hn ht hS htv.1 (by omega) (by omega) hsk hnd (fun wy' oR' oS' oE' oD' gR' gP' gS' gE' gK' gD' hnd' hsk' => nm_r (nI_1 part) ?_)
        refine ih (part + 1) f' _ _ wy' oR' oS' oE' oD' gR' gP' gS' gE' gK' gD' o1 hnd' hsk' (by omega) (by omega) ?_ (by omega) (by omega) hL
        unfold lc_o2
        split
        · rw [List.length_append]
          exact Nat.add_le_add_right hout 1
        · omega
/-- the nodes of the tree of rank k -/
def lc_tree (q : Nat → Nat → Nat) (w : Nat → Int32) (t : Nat → Nat) (R n k : Nat) : List lc_N := lc_run q w t R 256 [(0, 0, n, k, 0)]
theorem lc_root {c k : Nat} (h1 : 1 ≤ nt) (hc : c = lc_rt t n) (hC : c < 1000000) (hk : k < c) : lc_ve t nt n 0 0 n k := by
  unfold lc_rt at hc
  by_cases z : n = 0
  · rw [if_pos z] at hc; omega
  · rw [if_neg z] at hc
    exact ⟨by omega, by omega, Nat.le_refl n, by omega, by omega⟩
theorem lx_select {post : Int32 → SX → Prop} {c k : Nat} (hG : lc_G nt tm R q) (h24 : R ≤ 24) (h1 : 1 ≤ nt) (hn : n ≤ 12) (ht : ∀ j, t j ≤ 1000000) (hS : lc_sat q w R nt n t) (hA : lc_A R q rk) (hk : ∀ x, x < nt → rk x < nt) (hc : c = lc_rt t n) (hC : c < 1000000) (hkc : k < c)
    (hp : ∀ xL' wy' oR' oS' oE' oD' gR' gP' gS' gE' gK' gD', lc_nd oR' oS' oE' oD' (lc_tree q w t R n k) → (lc_tree q w t R n k).length ≤ 196 → post (nI (lc_tree q w t R n k).length) ((nI nt), (nI tm), (nI R), (nI n), 1, (nI c), (nI k), (nI (lc_tree q w t R n k).length), xL', (lc_rc q), w, ul, (lc_tr t), wy', oR', oS', oE', oD', gR', gP', gS', gE', gK', gD')) :
    wpX_selectTree post ((nI nt), (nI tm), (nI R), (nI n), 1, (nI c), xK, xM, xL, (lc_rc q), w, ul, (lc_tr t), wy, oR, oS, oE, oD, gR, gP, gS, gE, gK, gD) (nI k) := by
  have hv := lc_root h1 hc hC hkc
  have hv' := hv
  obtain ⟨v1, v2, v3, -, -⟩ := hv'
  obtain ⟨p1, p2⟩ := lc_pk_ok hG hS hv
  have hk0 := hk 0 h1
  have h8 := hG.1
  unfold wpX_selectTree
  refine br_f (by decide) (br_f (nI_ge (b := 1000000) hC (by decide)) (br_f (nI_pos (by omega)) (br_t (nI_lt hkc (by omega)) ?_)))
  refine lx_open (x := 0) (s := 0) (m := 0) (l := 0) (d := 0) hG h24 hn ht hS hv (by omega) (by omega) (fun wy' => ⟨196, ?_⟩)
  have hB : lc_mt rk q [((lc_pk q w t R 0 0 n k).1, 2, 0, n, (lc_pk q w t R 0 0 n k).2, 1)] = 17 * (n - 0) - 16 + rk 0 := by
    rw [lc_mt_c, lc_B_2, p1]; rfl
  refine lx_se58 (Lf := lc_tree q w t R n k) (rk := rk) hG h24 hn ht hS hA hk hp 196 1 255 [((lc_pk q w t R 0 0 n k).1, 0, n, 0)] [((lc_pk q w t R 0 0 n k).1, 2, 0, n, (lc_pk q w t R 0 0 n k).2, 1)] wy' _ _ _ _ _ _ _ _ _ _ ⟨p2, True.intro⟩ (lc_nd_a lc_nd_0) (lc_sk_p (gR := gR) (gP := gP) (gS := gS) (gE := gE) (gK := gK) (gD := gD) (l := []) (r := (lc_pk q w t R 0 0 n k).1) (j := 2) (s := 0) (e := n) (k := (lc_pk q w t R 0 0 n k).2) (d := 1) True.intro) ?_ (Nat.le_refl 1) (Nat.le_refl 1) ?_ ?_ rfl
  · rw [hB]; omega
  · rw [hB]; omega
  · rw [hB]; omega
end LXE
end
section
section LYA
variable {q : Nat → Nat → Nat} {w : Nat → Int32} {t : Nat → Nat} {nt tm R n : Nat}
variable {yP yC yK yM yL yA yB yD : Int32} {yE yF yG : Int64} {ct sK : Nat → Int64} {mk pR pS pE pD sS sB sE sD : Nat → Int32}
theorem ly_v12 {post : Int32 → Prop} {x : Int32} (h8 : nt ≤ 8) (t8 : tm ≤ 8) (hN : ¬ lc_vN nt x) (ht : lc_vS nt tm x → post 1) (hf : ¬ lc_vS nt tm x → post 0) : wY_valid_12 post x (nI nt) (nI tm) (nI R) (nI n) yP yC yK yM yL yA yB yD yE yF yG (lc_ra q 0) (lc_ra q 1) (lc_ra q 2) (lc_ra q 3) w ct mk pR pS pE pD sS sB sE sD sK := by
  unfold wY_valid_12
  rw [lc_vS_iff h8 t8] at ht hf
  refine br_c (fun h => hf ?_) (fun h => br_c (fun h' => hf ?_) (fun h' => ht (Or.inr ⟨h, h'⟩)))
  · rintro (z | z)
    · exact hN z
    · exact z.1 h
  · rintro (z | z)
    · exact hN z
    · exact z.2 h'
theorem ly_valid {post : Int32 → Prop} {x : Int32} (h8 : nt ≤ 8) (t8 : tm ≤ 8) (ht : lc_vS nt tm x → post 1) (hf : ¬ lc_vS nt tm x → post 0) : wpY_valid post ((nI nt), (nI tm), (nI R), (nI n), yP, yC, yK, yM, yL, yA, yB, yD, yE, yF, yG, (lc_ra q 0), (lc_ra q 1), (lc_ra q 2), (lc_ra q 3), w, ct, mk, pR, pS, pE, pD, sS, sB, sE, sD, sK) x := by
  unfold wpY_valid
  refine br_c (fun h => ly_v12 h8 t8 ?_ ht hf) (fun h => br_c (fun h' => ht ?_) (fun h' => ly_v12 h8 t8 ?_ ht hf))
  · rw [lc_vN_iff h8]; exact fun z => z.1 h
  · rw [lc_vS_iff h8 t8, lc_vN_iff h8]
    exact Or.inl ⟨h, Int32.not_le.mpr h'⟩
  · rw [lc_vN_iff h8]; exact fun z => h' (Int32.not_le.mp z.2)
theorem ly_48 {post : Int32 → SY → Prop} {p0 p1 p2 p3 : Int32} (h8 : nt ≤ 8) (t8 : tm ≤ 8) (h0 : lc_vN nt p0) (h1 : lc_vS nt tm p1) (h2 : p2 = -1 ∨ lc_vS nt tm p2) (h3 : p3 = -1 ∨ lc_vS nt tm p3) (hf : ¬ lc_Fm nt tm p0 p1 p2 p3 → post (-2) ((nI nt), (nI tm), (nI R), (nI n), yP, yC, yK, yM, yL, yA, yB, yD, yE, yF, yG, (lc_ra q 0), (lc_ra q 1), (lc_ra q 2), (lc_ra q 3), w, ct, mk, pR, pS, pE, pD, sS, sB, sE, sD, sK)) (ht : lc_Fm nt tm p0 p1 p2 p3 → wY_addRule_62 post p0 p1 p2 p3 (nI nt) (nI tm) (nI R) (nI n) yP yC yK yM yL yA yB yD yE yF yG (lc_ra q 0) (lc_ra q 1) (lc_ra q 2) (lc_ra q 3) w ct mk pR pS pE pD sS sB sE sD sK) : wY_addRule_48 post p0 p1 p2 p3 (nI nt) (nI tm) (nI R) (nI n) yP yC yK yM yL yA yB yD yE yF yG (lc_ra q 0) (lc_ra q 1) (lc_ra q 2) (lc_ra q 3) w ct mk pR pS pE pD sS sB sE sD sK := by
  unfold wY_addRule_48
  rw [lc_Fm_iff h8 t8] at ht hf
  refine br_c (fun e2 => br_c (fun e3 => ht ⟨h0, h1, Or.inl ⟨e2, e3⟩⟩) (fun e3 => hf ?_)) (fun e2 => ht ⟨h0, h1, Or.inr ⟨?_, h3⟩⟩)
  · rintro ⟨-, -, z | z⟩
    · exact e3 z.2
    · exact lc_vS_m1 h8 t8 z.1 e2
  · rcases h2 with z | z
    · exact absurd z e2
    · exact z
theorem ly_33 {post : Int32 → SY → Prop} {p0 p1 p2 p3 : Int32} (h8 : nt ≤ 8) (t8 : tm ≤ 8) (h0 : lc_vN nt p0) (h1 : lc_vS nt tm p1) (h2 : p2 = -1 ∨ lc_vS nt tm p2) (hf : ¬ lc_Fm nt tm p0 p1 p2 p3 → post (-2) ((nI nt), (nI tm), (nI R), (nI n), yP, yC, yK, yM, yL, yA, yB, yD, yE, yF, yG, (lc_ra q 0), (lc_ra q 1), (lc_ra q 2), (lc_ra q 3), w, ct, mk, pR, pS, pE, pD, sS, sB, sE, sD, sK)) (ht : lc_Fm nt tm p0 p1 p2 p3 → wY_addRule_62 post p0 p1 p2 p3 (nI nt) (nI tm) (nI R) (nI n) yP yC yK yM yL yA yB yD yE yF yG (lc_ra q 0) (lc_ra q 1) (lc_ra q 2) (lc_ra q 3) w ct mk pR pS pE pD sS sB sE sD sK) : wY_addRule_33 post p0 p1 p2 p3 (nI nt) (nI tm) (nI R) (nI n) yP yC yK yM yL yA yB yD yE yF yG (lc_ra q 0) (lc_ra q 1) (lc_ra q 2) (lc_ra q 3) w ct mk pR pS pE pD sS sB sE sD sK := by
  unfold wY_addRule_33
  refine br_c (fun e3 => ly_48 h8 t8 h0 h1 h2 (Or.inl e3) hf ht) (fun e3 => ?_)
  refine ly_valid h8 t8 (fun h3 => ?_) (fun h3 => ?_)
  · exact br_f (by decide) (ly_48 h8 t8 h0 h1 h2 (Or.inr h3) hf ht)
  · refine br_t rfl (hf ?_)
    rw [lc_Fm_iff h8 t8]
    rintro ⟨-, -, z | z⟩
    · exact e3 z.2
    · rcases z.2 with z | z
      · exact e3 z
      · exact h3 z
theorem ly_form {post : Int32 → SY → Prop} {p0 p1 p2 p3 : Int32} (h8 : nt ≤ 8) (t8 : tm ≤ 8) (hf : ¬ lc_Fm nt tm p0 p1 p2 p3 → post (-2) ((nI nt), (nI tm), (nI R), (nI n), yP, yC, yK, yM, yL, yA, yB, yD, yE, yF, yG, (lc_ra q 0), (lc_ra q 1), (lc_ra q 2), (lc_ra q 3), w, ct, mk, pR, pS, pE, pD, sS, sB, sE, sD, sK)) (ht : lc_Fm nt tm p0 p1 p2 p3 → wY_addRule_62 post p0 p1 p2 p3 (nI nt) (nI tm) (nI R) (nI n) yP yC yK yM yL yA yB yD yE yF yG (lc_ra q 0) (lc_ra q 1) (lc_ra q 2) (lc_ra q 3) w ct mk pR pS pE pD sS sB sE sD sK) : wpY_addRule post ((nI nt), (nI tm), (nI R), (nI n), yP, yC, yK, yM, yL, yA, yB, yD, yE, yF, yG, (lc_ra q 0), (lc_ra q 1), (lc_ra q 2), (lc_ra q 3), w, ct, mk, pR, pS, pE, pD, sS, sB, sE, sD, sK) p0 p1 p2 p3 := by
  unfold wpY_addRule
  refine br_c (fun h => hf ?_) (fun h => br_c (fun h' => hf ?_) (fun h' => ?_))
  · rw [lc_Fm_iff h8 t8, lc_vN_iff h8]; exact fun z => z.1.1 h
  · rw [lc_Fm_iff h8 t8, lc_vN_iff h8]; exact fun z => z.1.2 h'
  · have h0 : lc_vN nt p0 := (lc_vN_iff h8).mpr ⟨h, h'⟩
    refine ly_valid h8 t8 (fun h1 => ?_) (fun h1 => ?_)
    · refine br_f (by decide) (br_c (fun e2 => ly_33 h8 t8 h0 h1 (Or.inl e2) hf ht) (fun e2 => ?_))
      refine ly_valid h8 t8 (fun h2 => ?_) (fun h2 => ?_)
      · exact br_f (by decide) (ly_33 h8 t8 h0 h1 (Or.inr h2) hf ht)
      · refine br_t rfl (hf ?_)
        rw [lc_Fm_iff h8 t8]
        rintro ⟨-, -, z | z⟩
        · exact e2 z.1
        · exact h2 z.1
    · refine br_t rfl (hf ?_)
      rw [lc_Fm_iff h8 t8]
      exact fun z => h1 z.2.1
/-! marks -/
def lc_b2 (b : Bool) : Int32 := if b = true then 1 else 0
def lc_mk (mk : Nat → Int32) (S : Nat → Bool) : Prop := ∀ i, i < 16 → mk i = lc_b2 (S i)
theorem lc_vb0 : vp_nar .boolean 0 = 0 := by decide
theorem lc_vb1 : vp_nar .boolean 1 = 1 := by decide
theorem lc_b2_0 {b : Bool} : lc_b2 b = 0 ↔ b = false := by cases b <;> decide
theorem lc_mk_u {mk : Nat → Int32} {S : Nat → Bool} {c : Nat} (h : lc_mk mk S) : lc_mk (upd mk c (vp_nar .boolean 1)) (fun i => S i || decide (i = c)) := by
  intro i hi
  rw [lc_vb1]
  unfold upd
  show (if i = c then 1 else mk i) = lc_b2 (S i || decide (i = c))
  by_cases z : i = c
  · rw [if_pos z, decide_eq_true z, Bool.or_true]; rfl
  · rw [if_neg z, decide_eq_false z, Bool.or_false]; exact h i hi
theorem lc_mk_1 {mk : Nat → Int32} {a : Nat} (h : ∀ i, i < 16 → mk i = 0) : lc_mk (upd mk a (vp_nar .boolean 1)) (fun i => decide (i = a)) := by
  intro i hi
  rw [lc_vb1]
  unfold upd
  show (if i = a then 1 else mk i) = lc_b2 (decide (i = a))
  by_cases z : i = a
  · rw [if_pos z, decide_eq_true z]; rfl
  · rw [if_neg z, decide_eq_false z]; exact h i hi
abbrev lc_JY : Type := Int32 → (Nat → Int32) → (Nat → Int32) → (Nat → Int32) → (Nat → Int32) → (Nat → Int32) → (Nat → Int64) → (Nat → Int32) → (Nat → Int32) → (Nat → Int32) → (Nat → Int32) → (Nat → Int32) → (Nat → Int32) → (Nat → Int32) → (Nat → Int32) → (Nat → Int32) → (Nat → Int64) → Prop
theorem ly_139 {post : Int32 → SY → Prop} {J129 : lc_JY} {x1 x2 x3 x4 : Int32} {k : Nat} {S : Nat → Bool} (hG : lc_G nt tm R q) (h24 : R ≤ 24) (hJ : ∀ mk', lc_mk mk' (lc_ps true q R S) → J129 (nI (k + 1)) (lc_ra q 0) (lc_ra q 1) (lc_ra q 2) (lc_ra q 3) w ct mk' pR pS pE pD sS sB sE sD sK) :
    ∀ d i mk, i + d = R → lc_mk mk (lc_ps true q i S) → wY_addRule_139 post J129 x1 x2 x3 x4 (nI k) (nI nt) (nI tm) (nI R) (nI n) yP yC yK yM yL yA yB yD yE yF yG (d + 1) (nI i) (lc_ra q 0) (lc_ra q 1) (lc_ra q 2) (lc_ra q 3) w ct mk pR pS pE pD sS sB sE sD sK := by
  intro d
  induction d with
  | zero =>
    intro i mk hi hm
    obtain rfl : i = R := by omega
    exact br_t (nI_le (Nat.le_refl _) (by omega)) (nm_r (nI_1 k) (hJ mk hm))
  | succ d ih =>
    intro i mk hi hm
    have hr : i < R := by omega
    have h0 := (hG.2.2 i hr).1
    have h8 := hG.1
    have h1 := lc_G_r hG hr 1 (by omega)
    have h2 := lc_G_r hG hr 2 (by omega)
    have h16 := (lc_G_16 hG hr).1
    have hv : vp_in (nI i) 24 := vp_in_nI (by omega) (by omega)
    have hY : lc_ps true q i S (q i 0) = true → lc_ca true q i → wY_addRule_139 post J129 x1 x2 x3 x4 (nI k) (nI nt) (nI tm) (nI R) (nI n) yP yC yK yM yL yA yB yD yE yF yG (d + 1) (nI (i + 1)) (lc_ra q 0) (lc_ra q 1) (lc_ra q 2) (lc_ra q 3) w ct (upd mk (q i 1) (vp_nar .boolean 1)) pR pS pE pD sS sB sE sD sK := by
      intro hb hc
      refine ih (i + 1) _ (by omega) ?_
      show lc_mk _ (lc_st true q i (lc_ps true q i S))
      rw [lc_st_t hb hc]
      exact lc_mk_u hm
    have hN : ¬ (lc_ps true q i S (q i 0) = true ∧ lc_ca true q i) → wY_addRule_139 post J129 x1 x2 x3 x4 (nI k) (nI nt) (nI tm) (nI R) (nI n) yP yC yK yM yL yA yB yD yE yF yG (d + 1) (nI (i + 1)) (lc_ra q 0) (lc_ra q 1) (lc_ra q 2) (lc_ra q 3) w ct mk pR pS pE pD sS sB sE sD sK := by
      intro hc
      refine ih (i + 1) mk (by omega) ?_
      show lc_mk mk (lc_st true q i (lc_ps true q i S))
      rw [lc_st_f hc]
      exact hm
    rw [wY_addRule_139]
    refine br_f (nI_ge hr (by omega)) ⟨hv, ?_⟩
    rw [nI_clamp (by omega)]
    refine lc_if (c := lc_ra q 2 i = -1) (lc_cd_e h2) (fun z2 => ⟨hv, ?_⟩) (fun z2 => ?_)
    · have e1 : lc_ra q 1 i = nI (q i 1) := lc_cd_n h16
      have e0 : lc_ra q 0 i = nI (q i 0) := lc_cd_n (by omega)
      rw [e1, e0]
      refine br_f (nI_pos (by omega)) ⟨hv, ?_⟩
      refine pk_le 8 (q i 1) (fun z1 => ?_) (fun z1 => ⟨hv, vp_in_nI (by omega) (by omega), ?_⟩)
      · exact nm_r (nI_1 i) (hN (fun y => by have := (y.2 rfl).1; omega))
      · rw [nI_clamp (by omega), nI_clamp (by omega), hm _ (by omega)]
        refine lc_if lc_b2_0 (fun z => ?_) (fun z => ⟨hv, vp_in_nI (by omega) (by omega), ?_⟩)
        · exact nm_r (nI_1 i) (hN (fun y => by rw [z] at y; exact absurd y.1 (by decide)))
        · exact nm_e (nm_r (nI_1 i) (hY (by simpa using z) (fun _ => ⟨z1, z2⟩)))
    · exact nm_r (nI_1 i) (hN (fun y => z2 (y.2 rfl).2))
theorem ly_233 {post : Int32 → SY → Prop} {l a b c : Nat} (h24 : R < 24) (e0 : lc_cd l = nI l) (e1 : lc_cd a = nI a) (hp : post (nI R) ((nI nt), (nI tm), (nI (R + 1)), (nI n), 0, yC, (-1), 0, yL, yA, yB, yD, yE, yF, yG, (lc_ra (lc_add q R l a b c) 0), (lc_ra (lc_add q R l a b c) 1), (lc_ra (lc_add q R l a b c) 2), (lc_ra (lc_add q R l a b c) 3), w, ct, mk, pR, pS, pE, pD, sS, sB, sE, sD, sK)) : wY_addRule_233 post (nI l) (nI a) (lc_cd b) (lc_cd c) (nI nt) (nI tm) (nI R) (nI n) yP yC yK yM yL yA yB yD yE yF yG (lc_ra q 0) (lc_ra q 1) (lc_ra q 2) (lc_ra q 3) w ct mk pR pS pE pD sS sB sE sD sK := by
  unfold wY_addRule_233
  have hv : vp_in (nI R) 24 := vp_in_nI h24 (by omega)
  have hc : (nI R).toNatClampNeg = R := nI_clamp (by omega)
  have E : ∀ p v, lc_cd (lc_add q R l a b c R p) = v → upd (lc_ra q p) R v = lc_ra (lc_add q R l a b c) p := by
    intro p v hv
    funext j
    unfold upd
    by_cases z : j = R
    · rw [if_pos z, z]; exact hv.symm
    · rw [if_neg z]
      show lc_cd (q j p) = lc_cd (lc_add q R l a b c j p)
      unfold lc_add
      rw [if_neg z]
  refine ⟨hv, nm_r (e' := lc_ra (lc_add q R l a b c) 0) (by rw [hc]; exact E 0 _ (by rw [lc_add_0]; exact e0)) ⟨hv, nm_r (e' := lc_ra (lc_add q R l a b c) 1) (by rw [hc]; exact E 1 _ (by rw [lc_add_1]; exact e1)) ⟨hv, nm_r (e' := lc_ra (lc_add q R l a b c) 2) (by rw [hc]; exact E 2 _ (by rw [lc_add_2])) ⟨hv, nm_r (e' := lc_ra (lc_add q R l a b c) 3) (by rw [hc]; exact E 3 _ (by rw [lc_add_3])) (nm_r (nI_1 R) ?_)⟩⟩⟩⟩
  rw [← nI_pred R] at hp
  exact hp
theorem ly_129 {post : Int32 → SY → Prop} {l a b c : Nat} {S : Nat → Bool} (hG : lc_G nt tm R q) (h24 : R ≤ 24) (hl : l < nt)
    (h4 : lc_it true q R 9 S l = true → ∀ mk', post (-4) ((nI nt), (nI tm), (nI R), (nI n), yP, yC, yK, yM, yL, yA, yB, yD, yE, yF, yG, (lc_ra q 0), (lc_ra q 1), (lc_ra q 2), (lc_ra q 3), w, ct, mk', pR, pS, pE, pD, sS, sB, sE, sD, sK))
    (h0 : lc_it true q R 9 S l = false → ∀ mk', wY_addRule_233 post (nI l) (nI a) (lc_cd b) (lc_cd c) (nI nt) (nI tm) (nI R) (nI n) yP yC yK yM yL yA yB yD yE yF yG (lc_ra q 0) (lc_ra q 1) (lc_ra q 2) (lc_ra q 3) w ct mk' pR pS pE pD sS sB sE sD sK) :
    ∀ d k mk, k + d = 9 → lc_mk mk (lc_it true q R k S) → wY_addRule_129 post (nI l) (nI a) (lc_cd b) (lc_cd c) (nI nt) (nI tm) (nI R) (nI n) yP yC yK yM yL yA yB yD yE yF yG (d + 1) (nI k) (lc_ra q 0) (lc_ra q 1) (lc_ra q 2) (lc_ra q 3) w ct mk pR pS pE pD sS sB sE sD sK := by
  intro d
  induction d with
  | zero =>
    intro k mk hk hm
    have h8 := hG.1
    obtain rfl : k = 9 := by omega
    refine br_t (by decide) ⟨vp_in_nI (by omega) (by omega), ?_⟩
    rw [nI_clamp (by omega), hm l (by omega)]
    refine lc_if lc_b2_0 (fun z => h0 z mk) (fun z => h4 (by simpa using z) mk)
  | succ d ih =>
    intro k mk hk hm
    rw [wY_addRule_129]
    refine br_f (nI_ge (b := 9) (by omega) (by decide)) ⟨R + 1, ?_⟩
    exact ly_139 (S := lc_it true q R k S) hG h24 (fun mk' hm' => ih (k + 1) mk' (by omega) hm') R 0 mk (by omega) hm
theorem ly_98 {post : Int32 → SY → Prop} {l a b c : Nat} (hG : lc_G nt tm R q) (h24 : R ≤ 24) (hl : l < nt) (ha : a < 16)
    (h4 : lc_it true q R 9 (fun i => decide (i = a)) l = true → ∀ mk', post (-4) ((nI nt), (nI tm), (nI R), (nI n), yP, yC, yK, yM, yL, yA, yB, yD, yE, yF, yG, (lc_ra q 0), (lc_ra q 1), (lc_ra q 2), (lc_ra q 3), w, ct, mk', pR, pS, pE, pD, sS, sB, sE, sD, sK))
    (h0 : lc_it true q R 9 (fun i => decide (i = a)) l = false → ∀ mk', wY_addRule_233 post (nI l) (nI a) (lc_cd b) (lc_cd c) (nI nt) (nI tm) (nI R) (nI n) yP yC yK yM yL yA yB yD yE yF yG (lc_ra q 0) (lc_ra q 1) (lc_ra q 2) (lc_ra q 3) w ct mk' pR pS pE pD sS sB sE sD sK) :
    ∀ d k mk, k + d = 16 → (∀ i, i < k → mk i = 0) → wY_addRule_98 post (nI l) (nI a) (lc_cd b) (lc_cd c) (nI nt) (nI tm) (nI R) (nI n) yP yC yK yM yL yA yB yD yE yF yG (d + 1) (nI k) (lc_ra q 0) (lc_ra q 1) (lc_ra q 2) (lc_ra q 3) w ct mk pR pS pE pD sS sB sE sD sK := by
  intro d
  induction d with
  | zero =>
    intro k mk hk hm
    obtain rfl : k = 16 := by omega
    refine br_t (by decide) ⟨vp_in_nI ha (by omega), ?_⟩
    rw [nI_clamp (by omega)]
    exact nm_e ⟨10, ly_129 hG h24 hl h4 h0 9 0 _ (by omega) (lc_mk_1 hm)⟩
  | succ d ih =>
    intro k mk hk hm
    rw [wY_addRule_98]
    refine br_f (nI_ge (b := 16) (by omega) (by decide)) ⟨vp_in_nI (by omega) (by omega), nm_e (nm_r (nI_1 k) (ih (k + 1) _ (by omega) ?_))⟩
    intro i hi
    rw [nI_clamp (by omega), lc_vb0]
    by_cases z : i = k
    · subst z; exact pk_us
    · rw [pk_un z]; exact hm i (by omega)
theorem ly_addRule {post : Int32 → SY → Prop} {p0 p1 p2 p3 : Int32} (hG : lc_G nt tm R q) (h24 : R ≤ 24)
    (h2 : ¬ lc_Fm nt tm p0 p1 p2 p3 → post (-2) ((nI nt), (nI tm), (nI R), (nI n), yP, yC, yK, yM, yL, yA, yB, yD, yE, yF, yG, (lc_ra q 0), (lc_ra q 1), (lc_ra q 2), (lc_ra q 3), w, ct, mk, pR, pS, pE, pD, sS, sB, sE, sD, sK))
    (h3 : lc_Fm nt tm p0 p1 p2 p3 → R = 24 → post (-3) ((nI nt), (nI tm), (nI R), (nI n), yP, yC, yK, yM, yL, yA, yB, yD, yE, yF, yG, (lc_ra q 0), (lc_ra q 1), (lc_ra q 2), (lc_ra q 3), w, ct, mk, pR, pS, pE, pD, sS, sB, sE, sD, sK))
    (h4 : ∀ l a, lc_fm nt tm l a 16 16 → p0 = nI l → p1 = nI a → p2 = -1 → p3 = -1 → R < 24 → a < nt → lc_co true q R nt a l = true → ∀ mk', post (-4) ((nI nt), (nI tm), (nI R), (nI n), yP, yC, yK, yM, yL, yA, yB, yD, yE, yF, yG, (lc_ra q 0), (lc_ra q 1), (lc_ra q 2), (lc_ra q 3), w, ct, mk', pR, pS, pE, pD, sS, sB, sE, sD, sK))
    (h0 : ∀ l a b c, lc_fm nt tm l a b c → p0 = nI l → p1 = nI a → p2 = lc_cd b → p3 = lc_cd c → R < 24 → (b = 16 → a < nt → lc_co true q R nt a l = false) → ∀ mk', post (nI R) ((nI nt), (nI tm), (nI (R + 1)), (nI n), 0, yC, (-1), 0, yL, yA, yB, yD, yE, yF, yG, (lc_ra (lc_add q R l a b c) 0), (lc_ra (lc_add q R l a b c) 1), (lc_ra (lc_add q R l a b c) 2), (lc_ra (lc_add q R l a b c) 3), w, ct, mk', pR, pS, pE, pD, sS, sB, sE, sD, sK)) :
    wpY_addRule post ((nI nt), (nI tm), (nI R), (nI n), yP, yC, yK, yM, yL, yA, yB, yD, yE, yF, yG, (lc_ra q 0), (lc_ra q 1), (lc_ra q 2), (lc_ra q 3), w, ct, mk, pR, pS, pE, pD, sS, sB, sE, sD, sK) p0 p1 p2 p3 := by
  have h8 := hG.1
  have t8 := hG.2.1
  refine ly_form h8 t8 h2 (fun hF => ?_)
  have hF' := hF
  obtain ⟨l, a, b, c, hf, rfl, rfl, rfl, rfl⟩ := hF
  have hf' := hf
  obtain ⟨f1, f2, f3⟩ := hf'
  have ha16 := lc_va_16 h8 t8 f2
  have e0 : lc_cd l = nI l := lc_cd_n (by omega)
  have e1 := lc_cd_va h8 t8 f2
  have hb16 : b ≤ 16 := by
    rcases f3 with ⟨rfl, -⟩ | ⟨z, -⟩
    · omega
    · have := lc_va_16 h8 t8 z; omega
  unfold wY_addRule_62
  refine pk_lt R 24 (fun hR => ?_) (fun hR => h3 hF' (by omega))
  refine lc_if (lc_cd_e hb16) (fun e => ?_) (fun e => ?_)
  · subst e
    obtain rfl : c = 16 := by
      rcases f3 with ⟨-, z⟩ | ⟨z, -⟩
      · exact z
      · have := lc_va_16 h8 t8 z; omega
    refine pk_le nt a (fun z => ?_) (fun z => ?_)
    · exact ly_233 hR e0 e1 (h0 l a 16 16 hf rfl rfl rfl rfl hR (fun _ y => absurd y (by omega)) mk)
    · have e9 : lc_it true q R 9 (fun i => decide (i = a)) = lc_co true q R nt a := lc_it_9 z h8 (by simp) (fun r hr => (hG.2.2 r hr).1)
      refine pk_eq a l (fun y => ?_) (fun y => ?_)
      · refine h4 l a hf rfl rfl lc_cd_16 lc_cd_16 hR z ?_ mk
        subst y
        exact lc_it_sub (by simp) nt
      · refine ⟨17, ly_98 hG h24 f1 ha16 ?_ ?_ 16 0 mk (by omega) (fun i hi => by omega)⟩
        · rw [e9]
          exact fun x => h4 l a hf rfl rfl lc_cd_16 lc_cd_16 hR z x
        · rw [e9]
          exact fun x mk' => ly_233 hR e0 e1 (h0 l a 16 16 hf rfl rfl rfl rfl hR (fun _ _ => x) mk')
  · exact ly_233 hR e0 e1 (h0 l a b c hf rfl rfl rfl rfl hR (fun z => absurd z e) mk)
theorem ly_61 {post : Int32 → SY → Prop} {J52 : lc_JY} {x2 : Int32} {k : Nat} {S : Nat → Bool} (hG : lc_G nt tm R q) (h24 : R ≤ 24) (hJ : ∀ mk', lc_mk mk' (lc_ps false q R S) → J52 (nI (k + 1)) (lc_ra q 0) (lc_ra q 1) (lc_ra q 2) (lc_ra q 3) w ct mk' pR pS pE pD sS sB sE sD sK) :
    ∀ d i mk, i + d = R → lc_mk mk (lc_ps false q i S) → wY_isLeftCorner_61 post J52 x2 (nI k) (nI nt) (nI tm) (nI R) (nI n) yP yC yK yM yL yA yB yD yE yF yG (d + 1) (nI i) (lc_ra q 0) (lc_ra q 1) (lc_ra q 2) (lc_ra q 3) w ct mk pR pS pE pD sS sB sE sD sK := by
  intro d
  induction d with
  | zero =>
    intro i mk hi hm
    obtain rfl : i = R := by omega
    exact br_t (nI_le (Nat.le_refl _) (by omega)) (nm_r (nI_1 k) (hJ mk hm))
  | succ d ih =>
    intro i mk hi hm
    have hr : i < R := by omega
    have h0 := (hG.2.2 i hr).1
    have h8 := hG.1
    have h1 := lc_G_r hG hr 1 (by omega)
    have h16 := (lc_G_16 hG hr).1
    have hv : vp_in (nI i) 24 := vp_in_nI (by omega) (by omega)
    have hca : lc_ca false q i := fun z => by cases z
    rw [wY_isLeftCorner_61]
    refine br_f (nI_ge hr (by omega)) ⟨hv, ?_⟩
    have e1 : lc_ra q 1 i = nI (q i 1) := lc_cd_n h16
    have e0 : lc_ra q 0 i = nI (q i 0) := lc_cd_n (by omega)
    rw [nI_clamp (by omega), e1, e0, nI_clamp (by omega), nI_clamp (by omega), hm _ (by omega)]
    refine ⟨vp_in_nI (by omega) (by omega), ?_⟩
    refine lc_if lc_b2_0 (fun z => ?_) (fun z => ⟨hv, ?_⟩)
    · refine nm_r (nI_1 i) (ih (i + 1) mk (by omega) ?_)
      show lc_mk mk (lc_st false q i (lc_ps false q i S))
      rw [lc_st_f (fun y => by rw [z] at y; exact absurd y.1 (by decide))]
      exact hm
    · refine br_f (nI_pos (by omega)) ⟨hv, br_f (nI_ge (b := 16) (by omega) (by decide)) ⟨hv, vp_in_nI (by omega) (by omega), nm_e (nm_r (nI_1 i) (ih (i + 1) _ (by omega) ?_))⟩⟩
      show lc_mk _ (lc_st false q i (lc_ps false q i S))
      rw [lc_st_t (by simpa using z) hca]
      exact lc_mk_u hm
theorem lc_b2_n (b : Bool) : narrow .boolean (.int (lc_b2 b)) = .int (lc_b2 b) := by cases b <;> rfl
theorem ly_52 {post : Int32 → SY → Prop} {b : Nat} {S : Nat → Bool} (hG : lc_G nt tm R q) (h24 : R ≤ 24) (hb : b < 16)
    (h0 : ∀ mk', post (lc_b2 (lc_it false q R 9 S b)) ((nI nt), (nI tm), (nI R), (nI n), yP, yC, yK, yM, yL, yA, yB, yD, yE, yF, yG, (lc_ra q 0), (lc_ra q 1), (lc_ra q 2), (lc_ra q 3), w, ct, mk', pR, pS, pE, pD, sS, sB, sE, sD, sK)) :
    ∀ d k mk, k + d = 9 → lc_mk mk (lc_it false q R k S) → wY_isLeftCorner_52 post (nI b) (nI nt) (nI tm) (nI R) (nI n) yP yC yK yM yL yA yB yD yE yF yG (d + 1) (nI k) (lc_ra q 0) (lc_ra q 1) (lc_ra q 2) (lc_ra q 3) w ct mk pR pS pE pD sS sB sE sD sK := by
  intro d
  induction d with
  | zero =>
    intro k mk hk hm
    obtain rfl : k = 9 := by omega
    refine br_t (by decide) ⟨vp_in_nI hb (by omega), ?_⟩
    rw [nI_clamp (by omega), hm b hb]
    exact ⟨lc_b2_n _, h0 mk⟩
  | succ d ih =>
    intro k mk hk hm
    rw [wY_isLeftCorner_52]
    refine br_f (nI_ge (b := 9) (by omega) (by decide)) ⟨R + 1, ?_⟩
    exact ly_61 (S := lc_it false q R k S) hG h24 (fun mk' hm' => ih (k + 1) mk' (by omega) hm') R 0 mk (by omega) hm
theorem ly_24 {post : Int32 → SY → Prop} {a b : Nat} (hG : lc_G nt tm R q) (h24 : R ≤ 24) (hb : b < 16) (ha : a < 16)
    (h0 : ∀ mk', post (lc_b2 (lc_it false q R 9 (fun i => decide (i = a)) b)) ((nI nt), (nI tm), (nI R), (nI n), yP, yC, yK, yM, yL, yA, yB, yD, yE, yF, yG, (lc_ra q 0), (lc_ra q 1), (lc_ra q 2), (lc_ra q 3), w, ct, mk', pR, pS, pE, pD, sS, sB, sE, sD, sK)) :
    ∀ d k mk, k + d = 16 → (∀ i, i < k → mk i = 0) → wY_isLeftCorner_24 post (nI a) (nI b) (nI nt) (nI tm) (nI R) (nI n) yP yC yK yM yL yA yB yD yE yF yG (d + 1) (nI k) (lc_ra q 0) (lc_ra q 1) (lc_ra q 2) (lc_ra q 3) w ct mk pR pS pE pD sS sB sE sD sK := by
  intro d
  induction d with
  | zero =>
    intro k mk hk hm
    obtain rfl : k = 16 := by omega
    refine br_t (by decide) ⟨vp_in_nI ha (by omega), ?_⟩
    rw [nI_clamp (by omega)]
    exact nm_e ⟨10, ly_52 hG h24 hb h0 9 0 _ (by omega) (lc_mk_1 hm)⟩
  | succ d ih =>
    intro k mk hk hm
    rw [wY_isLeftCorner_24]
    refine br_f (nI_ge (b := 16) (by omega) (by decide)) ⟨vp_in_nI (by omega) (by omega), nm_e (nm_r (nI_1 k) (ih (k + 1) _ (by omega) ?_))⟩
    intro i hi
    rw [nI_clamp (by omega), lc_vb0]
    by_cases z : i = k
    · subst z; exact pk_us
    · rw [pk_un z]; exact hm i (by omega)
theorem ly_isLC {post : Int32 → SY → Prop} {p0 p1 : Int32} (hG : lc_G nt tm R q) (h24 : R ≤ 24)
    (h0 : ¬ (lc_vN nt p0 ∧ lc_vS nt tm p1) → post 0 ((nI nt), (nI tm), (nI R), (nI n), yP, yC, yK, yM, yL, yA, yB, yD, yE, yF, yG, (lc_ra q 0), (lc_ra q 1), (lc_ra q 2), (lc_ra q 3), w, ct, mk, pR, pS, pE, pD, sS, sB, sE, sD, sK))
    (h1 : ∀ a b, a < nt → lc_va nt tm b → p0 = nI a → p1 = nI b → ∀ mk', post (if lc_co false q R nt a b = true then 1 else 0) ((nI nt), (nI tm), (nI R), (nI n), yP, yC, yK, yM, yL, yA, yB, yD, yE, yF, yG, (lc_ra q 0), (lc_ra q 1), (lc_ra q 2), (lc_ra q 3), w, ct, mk', pR, pS, pE, pD, sS, sB, sE, sD, sK)) :
    wpY_isLeftCorner post ((nI nt), (nI tm), (nI R), (nI n), yP, yC, yK, yM, yL, yA, yB, yD, yE, yF, yG, (lc_ra q 0), (lc_ra q 1), (lc_ra q 2), (lc_ra q 3), w, ct, mk, pR, pS, pE, pD, sS, sB, sE, sD, sK) p0 p1 := by
  have h8 := hG.1
  have t8 := hG.2.1
  unfold wpY_isLeftCorner
  refine br_c (fun h => h0 ?_) (fun h => br_c (fun h' => h0 ?_) (fun h' => ?_))
  · rw [lc_vN_iff h8]; exact fun z => z.1.1 h
  · rw [lc_vN_iff h8]; exact fun z => z.1.2 h'
  · have hN : lc_vN nt p0 := (lc_vN_iff h8).mpr ⟨h, h'⟩
    refine ly_valid h8 t8 (fun hS => ?_) (fun hS => br_t rfl (h0 (fun z => hS z.2)))
    refine br_f (by decide) ?_
    obtain ⟨a, ha, rfl⟩ := hN
    obtain ⟨b, hb, rfl⟩ := hS
    have hb16 := lc_va_16 h8 t8 hb
    have H := h1 a b ha hb rfl rfl
    have e9 : lc_it false q R 9 (fun i => decide (i = a)) = lc_co false q R nt a := lc_it_9 ha h8 (by simp) (fun r hr => (hG.2.2 r hr).1)
    refine ⟨17, ly_24 hG h24 hb16 (by omega) ?_ 16 0 mk (by omega) (fun i hi => by omega)⟩
    rw [e9]
    exact H
end LYA
end
section
section LYB
variable {q : Nat → Nat → Nat} {w : Nat → Int32} {t : Nat → Nat} {nt tm R n : Nat} {rk : Nat → Nat}
variable {yP yC yK yM yL yA yB yD : Int32} {yE yF yG : Int64} {ct sK : Nat → Int64} {mk pR pS pE pD sS sB sE sD : Nat → Int32}
/-- Y's table holds t where it is read -/
def lc_ct (ct : Nat → Int64) (nt n : Nat) (t : Nat → Nat) : Prop := ∀ x s e, x < nt → s < e → e ≤ n → ct (lc_ix x s e) = lN (t (lc_ix x s e))
theorem ly_sym {post : Int64 → Prop} {c s e : Nat} (h8 : nt ≤ 8) (hn : n ≤ 12) (hct : lc_ct ct nt n t) (hc : c < 16) (hc8 : c < 8 → c < nt) (hs : s < e) (he : e ≤ n) (h : post (lN (lc_y w t c s e))) : wpY_symCnt post ((nI nt), (nI tm), (nI R), (nI n), yP, yC, yK, yM, yL, yA, yB, yD, yE, yF, yG, (lc_ra q 0), (lc_ra q 1), (lc_ra q 2), (lc_ra q 3), w, ct, mk, pR, pS, pE, pD, sS, sB, sE, sD, sK) (nI c) (nI s) (nI e) := by
  unfold wpY_symCnt
  unfold lc_y at h
  refine br_f (nI_pos (by omega)) (br_f (nI_nlt he (by omega)) (br_f (nI_ge hs (by omega)) (br_t (nI_le (b := 12) (by omega) (by decide)) (br_f (nI_pos (by omega)) ?_))))
  refine pk_le 8 c (fun z => ?_) (fun z => ?_)
  · unfold wY_symCnt_52
    rw [if_neg (by omega)] at h
    refine br_f (nI_nlt (b := 8) z (by omega)) (br_f (nI_ge (b := 16) hc (by decide)) ?_)
    have e1 : nI e - nI s = nI (e - s) := pk_sub (by omega)
    have e2 : nI c - 8 = nI (c - 8) := pk_sub (a := c) (b := 8) (by omega)
    rw [e1, e2]
    refine pk_eq (e - s) 1 (fun z => ⟨vp_in_nI (by omega) (by omega), ?_⟩) (fun z => ?_)
    · rw [nI_clamp (by omega)]
      refine br_c (fun z2 => ?_) (fun z2 => ?_)
      · rw [if_pos ⟨by omega, z2⟩] at h; exact h
      · rw [if_neg (fun y => z2 y.2)] at h; exact h
    · rw [if_neg (fun y => z (by omega))] at h; exact h
  · rw [if_pos z] at h
    have hx := lc_ix_lt (x := c) (s := s) (e := e) z (by omega) (by omega)
    rw [lc_ixN, nI_clamp (by omega), hct c s e (hc8 z) hs he]
    exact ⟨vp_in_nI hx (by omega), h⟩
theorem ly_add {post : Int64 → Prop} {a b : Nat} (ha : a ≤ 1000000) (hb : b ≤ 1000000) (h : post (lN (lc_cp (a + b)))) : wpY_add post ((nI nt), (nI tm), (nI R), (nI n), yP, yC, yK, yM, yL, yA, yB, yD, yE, yF, yG, (lc_ra q 0), (lc_ra q 1), (lc_ra q 2), (lc_ra q 3), w, ct, mk, pR, pS, pE, pD, sS, sB, sE, sD, sK) (lN a) (lN b) := by
  unfold wpY_add
  exact nm_r (lN_add a b) (lc_cpL (by omega) h)
theorem ly_mul {post : Int64 → Prop} {a b : Nat} (ha : a ≤ 1000000) (hb : b ≤ 1000000) (h : post (lN (lc_cp (a * b)))) : wpY_mul post ((nI nt), (nI tm), (nI R), (nI n), yP, yC, yK, yM, yL, yA, yB, yD, yE, yF, yG, (lc_ra q 0), (lc_ra q 1), (lc_ra q 2), (lc_ra q 3), w, ct, mk, pR, pS, pE, pD, sS, sB, sE, sD, sK) (lN a) (lN b) := by
  unfold wpY_mul
  have hm : a * b ≤ 1000000 * 1000000 := Nat.mul_le_mul ha hb
  exact nm_r (lN_mul a b) (lc_cpL (by omega) h)
/-- sum + a * b, both saturated -/
theorem ly_ma {post : Int64 → Prop} {S a b : Nat} (ha : a ≤ 1000000) (hb : b ≤ 1000000) (h : post (lN (lc_cp (S + a * b)))) : wpY_mul (fun r => wpY_add post ((nI nt), (nI tm), (nI R), (nI n), yP, yC, yK, yM, yL, yA, yB, yD, yE, yF, yG, (lc_ra q 0), (lc_ra q 1), (lc_ra q 2), (lc_ra q 3), w, ct, mk, pR, pS, pE, pD, sS, sB, sE, sD, sK) (lN (lc_cp S)) r) ((nI nt), (nI tm), (nI R), (nI n), yP, yC, yK, yM, yL, yA, yB, yD, yE, yF, yG, (lc_ra q 0), (lc_ra q 1), (lc_ra q 2), (lc_ra q 3), w, ct, mk, pR, pS, pE, pD, sS, sB, sE, sD, sK) (lN a) (lN b) := by
  refine ly_mul ha hb (ly_add (lc_cp_le _) (lc_cp_le _) ?_)
  rw [lc_cp_a, lc_cp_b]
  exact h
theorem ly_tc8 {post : Int64 → Prop} {b c k e : Nat} (h8 : nt ≤ 8) (hn : n ≤ 12) (ht : ∀ j, t j ≤ 1000000) (hct : lc_ct ct nt n t) (hb : b < 16) (hb8 : b < 8 → b < nt) (hc : c < 16) (hc8 : c < 8 → c < nt) (he : e ≤ n)
    (hp : post (lN (lc_cp (lc_S (fun i => lc_y w t b k i * lc_y w t c i e) (k + 1) e)))) :
    ∀ d i, i + d = e → k + 1 ≤ i → wY_tailCount_8 post (nI b) (nI c) (nI k) (nI e) (nI nt) (nI tm) (nI R) (nI n) yP yC yK yM yL yA yB yD yE yF yG (lc_ra q 0) (lc_ra q 1) (lc_ra q 2) (lc_ra q 3) w ct mk pR pS pE pD sS sB sE sD sK (d + 1) (lN (lc_cp (lc_S (fun i => lc_y w t b k i * lc_y w t c i e) (k + 1) i))) (nI i) := by
  intro d
  induction d with
  | zero =>
    intro i hi hk
    obtain rfl : i = e := by omega
    exact br_t (nI_le (Nat.le_refl _) (by omega)) hp
  | succ d ih =>
    intro i hi hk
    rw [wY_tailCount_8]
    refine br_f (nI_ge (by omega) (by omega)) ?_
    refine ly_sym h8 hn hct hb hb8 (by omega) (by omega) ?_
    refine ly_sym h8 hn hct hc hc8 (by omega) he ?_
    have H := ih (i + 1) (by omega) (by omega)
    rw [lc_S_s hk] at H
    exact ly_ma (lc_y_le ht _ _ _) (lc_y_le ht _ _ _) (nm_r (nI_1 i) H)
theorem ly_tc {post : Int64 → Prop} {r k e : Nat} (hG : lc_G nt tm R q) (hn : n ≤ 12) (ht : ∀ j, t j ≤ 1000000) (hct : lc_ct ct nt n t) (hr : r < R) (h2 : ¬ q r 2 = 16) (h3 : ¬ q r 3 = 16) (hk : k < e) (he : e ≤ n) (hp : post (lN (lc_w q w t r 2 k e))) : wpY_tailCount post ((nI nt), (nI tm), (nI R), (nI n), yP, yC, yK, yM, yL, yA, yB, yD, yE, yF, yG, (lc_ra q 0), (lc_ra q 1), (lc_ra q 2), (lc_ra q 3), w, ct, mk, pR, pS, pE, pD, sS, sB, sE, sD, sK) (nI (q r 2)) (nI (q r 3)) (nI k) (nI e) := by
  unfold wpY_tailCount
  have r2 := lc_G_r hG hr 2 (by omega)
  have r3 := lc_G_r hG hr 3 (by omega)
  have e2 : lc_w q w t r 2 k e = lc_cp (lc_S (fun i => lc_y w t (q r 2) k i * lc_y w t (q r 3) i e) (k + 1) e) := by
    rw [lc_w_m (j := 0) h2 h3 hk]
    refine congrArg lc_cp (lc_S_c ?_)
    intro i a b
    show lc_y w t (q r 2) k i * lc_w q w t r (0 + 1) i e = _
    rw [lc_w_l ht (fun i hi => by omega) h3 b]
  rw [e2] at hp
  refine nm_r (nI_1 k) ⟨e - (k + 1) + 1, ?_⟩
  have H := ly_tc8 (nt := nt) (tm := tm) (R := R) (n := n) (q := q) (w := w) (t := t) (yP := yP) (yC := yC) (yK := yK) (yM := yM) (yL := yL) (yA := yA) (yB := yB) (yD := yD) (yE := yE) (yF := yF) (yG := yG) (ct := ct) (mk := mk) (pR := pR) (pS := pS) (pE := pE) (pD := pD) (sS := sS) (sB := sB) (sE := sE) (sD := sD) (sK := sK) hG.1 hn ht hct (by omega) (lc_G_8 hG hr 2 (by omega)) (by omega) (lc_G_8 hG hr 3 (by omega)) he hp (e - (k + 1)) (k + 1) (by omega) (Nat.le_refl _)
  rw [lc_S_0 (Nat.le_refl _)] at H
  exact H
theorem ly_rs31 {post : Int64 → Prop} {r s e : Nat} (hG : lc_G nt tm R q) (h24 : R ≤ 24) (hn : n ≤ 12) (ht : ∀ j, t j ≤ 1000000) (hct : lc_ct ct nt n t) (hr : r < R) (h2 : ¬ q r 2 = 16) (he : e ≤ n)
    (hp : post (lN (lc_cp (lc_S (fun k => lc_y w t (q r 1) s k * lc_w q w t r 2 k e) (s + 1) e)))) :
    ∀ d i, i + d = e → s + 1 ≤ i → wY_ruleSpanCount_31 post (nI r) (nI s) (nI e) (nI nt) (nI tm) (nI R) (nI n) yP yC yK yM yL yA yB yD yE yF yG (lc_ra q 0) (lc_ra q 1) (lc_ra q 2) (lc_ra q 3) w ct mk pR pS pE pD sS sB sE sD sK (d + 1) (lN (lc_cp (lc_S (fun k => lc_y w t (q r 1) s k * lc_w q w t r 2 k e) (s + 1) i))) (nI i) := by
  intro d
  induction d with
  | zero =>
    intro i hi hk
    obtain rfl : i = e := by omega
    exact br_t (nI_le (Nat.le_refl _) (by omega)) hp
  | succ d ih =>
    intro i hi hk
    have r1 := lc_G_r hG hr 1 (by omega)
    have r2 := lc_G_r hG hr 2 (by omega)
    have r3 := lc_G_r hG hr 3 (by omega)
    have h1 := (lc_G_16 hG hr).1
    have hv : vp_in (nI r) 24 := vp_in_nI (by omega) (by omega)
    have e1 : lc_ra q 1 r = nI (q r 1) := lc_cd_n h1
    have e2 : lc_ra q 2 r = nI (q r 2) := lc_cd_n h2
    have H := ih (i + 1) (by omega) (by omega)
    rw [lc_S_s hk] at H
    rw [wY_ruleSpanCount_31]
    refine br_f (nI_ge (by omega) (by omega)) ⟨hv, ?_⟩
    rw [nI_clamp (by omega), e1, e2]
    refine ly_sym hG.1 hn hct (by omega) (lc_G_8 hG hr 1 (by omega)) (by omega) (by omega) ⟨hv, ?_⟩
    refine lc_if (c := lc_ra q 3 r = -1) (lc_cd_e r3) (fun z => ⟨hv, ?_⟩) (fun z => ⟨hv, hv, ?_⟩)
    · refine ly_sym hG.1 hn hct (by omega) (lc_G_8 hG hr 2 (by omega)) (by omega) (by omega) ?_
      unfold wY_ruleSpanCount_97
      have ew : lc_w q w t r 2 i e = lc_y w t (q r 2) i e := lc_w_l (j := 1) ht (fun i hi => by obtain rfl : i = 0 := (by omega); exact z) h2 (by omega)
      rw [ew] at H
      exact ly_ma (lc_y_le ht _ _ _) (lc_y_le ht _ _ _) (nm_r (nI_1 i) H)
    · have e3 : lc_ra q 3 r = nI (q r 3) := lc_cd_n z
      rw [e3]
      refine ly_tc hG hn ht hct hr h2 z (by omega) he ?_
      unfold wY_ruleSpanCount_97
      exact ly_ma (lc_y_le ht _ _ _) (lc_w_le _ _ _) (nm_r (nI_1 i) H)
theorem ly_rs {post : Int64 → Prop} {r s e : Nat} (hG : lc_G nt tm R q) (h24 : R ≤ 24) (hn : n ≤ 12) (ht : ∀ j, t j ≤ 1000000) (hct : lc_ct ct nt n t) (hr : r < R) (hs : s < e) (he : e ≤ n) (hp : post (lN (lc_w q w t r 3 s e))) : wpY_ruleSpanCount post ((nI nt), (nI tm), (nI R), (nI n), yP, yC, yK, yM, yL, yA, yB, yD, yE, yF, yG, (lc_ra q 0), (lc_ra q 1), (lc_ra q 2), (lc_ra q 3), w, ct, mk, pR, pS, pE, pD, sS, sB, sE, sD, sK) (nI r) (nI s) (nI e) := by
  unfold wpY_ruleSpanCount
  have r1 := lc_G_r hG hr 1 (by omega)
  have r2 := lc_G_r hG hr 2 (by omega)
  have h1 := (lc_G_16 hG hr).1
  have h23 := (lc_G_16 hG hr).2
  have hv : vp_in (nI r) 24 := vp_in_nI (by omega) (by omega)
  have e1 : lc_ra q 1 r = nI (q r 1) := lc_cd_n h1
  refine ⟨hv, ?_⟩
  rw [nI_clamp (by omega), e1]
  refine lc_if (c := lc_ra q 2 r = -1) (lc_cd_e r2) (fun z => ⟨hv, ?_⟩) (fun z => ?_)
  · refine ly_sym hG.1 hn hct (by omega) (lc_G_8 hG hr 1 (by omega)) hs he ?_
    have ew : lc_w q w t r 3 s e = lc_y w t (q r 1) s e := lc_w_l (j := 2) ht (fun i hi => by
      have : i = 0 ∨ i = 1 := by omega
      rcases this with rfl | rfl
      · exact h23 z
      · exact z) h1 hs
    rw [ew] at hp
    exact hp
  · have ew : lc_w q w t r 3 s e = lc_cp (lc_S (fun k => lc_y w t (q r 1) s k * lc_w q w t r 2 k e) (s + 1) e) := lc_w_m (j := 1) h1 z hs
    rw [ew] at hp
    refine nm_r (nI_1 s) ⟨e - (s + 1) + 1, ?_⟩
    have H := ly_rs31 (nt := nt) (tm := tm) (R := R) (n := n) (q := q) (w := w) (t := t) (yP := yP) (yC := yC) (yK := yK) (yM := yM) (yL := yL) (yA := yA) (yB := yB) (yD := yD) (yE := yE) (yF := yF) (yG := yG) (ct := ct) (mk := mk) (pR := pR) (pS := pS) (pE := pE) (pD := pD) (sS := sS) (sB := sB) (sE := sE) (sD := sD) (sK := sK) hG h24 hn ht hct hr z he hp (e - (s + 1)) (s + 1) (by omega) (Nat.le_refl _)
    rw [lc_S_0 (Nat.le_refl _)] at H
    exact H
theorem ly_nt6 {post : Int64 → Prop} {x s e : Nat} (hG : lc_G nt tm R q) (h24 : R ≤ 24) (hn : n ≤ 12) (ht : ∀ j, t j ≤ 1000000) (hct : lc_ct ct nt n t) (hx : x < 8) (hs : s < e) (he : e ≤ n) (hp : post (lN (lc_n q w t R x s e))) :
    ∀ d i, i + d = R → wY_ntCount_6 post (nI x) (nI s) (nI e) (nI nt) (nI tm) (nI R) (nI n) yP yC yK yM yL yA yB yD yE yF yG (lc_ra q 0) (lc_ra q 1) (lc_ra q 2) (lc_ra q 3) w ct mk pR pS pE pD sS sB sE sD sK (d + 1) (lN (lc_cp (lc_S (lc_g q w t x s e) 0 i))) (nI i) := by
  intro d
  induction d with
  | zero =>
    intro i hi
    obtain rfl : i = R := by omega
    exact br_t (nI_le (Nat.le_refl _) (by omega)) hp
  | succ d ih =>
    intro i hi
    have hr : i < R := by omega
    have h0 := (hG.2.2 i hr).1
    have h8 := hG.1
    have e0 : lc_ra q 0 i = nI (q i 0) := lc_cd_n (by omega)
    have H := ih (i + 1) (by omega)
    rw [lc_S_s (Nat.zero_le i)] at H
    rw [wY_ntCount_6]
    refine br_f (nI_ge hr (by omega)) ⟨vp_in_nI (by omega) (by omega), ?_⟩
    rw [nI_clamp (by omega), e0]
    refine pk_eq (q i 0) x (fun z => ?_) (fun z => ?_)
    · refine ly_rs hG h24 hn ht hct hr hs he ?_
      have eg : lc_g q w t x s e i = lc_w q w t i 3 s e := if_pos z
      rw [eg] at H
      refine ly_add (lc_cp_le _) (lc_w_le _ _ _) (nm_r (nI_1 i) ?_)
      rw [lc_cp_a]
      exact H
    · have eg : lc_g q w t x s e i = 0 := if_neg z
      rw [eg, Nat.add_zero] at H
      exact nm_r (nI_1 i) H
theorem ly_nt {post : Int64 → Prop} {x s e : Nat} (hG : lc_G nt tm R q) (h24 : R ≤ 24) (hn : n ≤ 12) (ht : ∀ j, t j ≤ 1000000) (hct : lc_ct ct nt n t) (hx : x < 8) (hs : s < e) (he : e ≤ n) (hp : post (lN (lc_n q w t R x s e))) : wpY_ntCount post ((nI nt), (nI tm), (nI R), (nI n), yP, yC, yK, yM, yL, yA, yB, yD, yE, yF, yG, (lc_ra q 0), (lc_ra q 1), (lc_ra q 2), (lc_ra q 3), w, ct, mk, pR, pS, pE, pD, sS, sB, sE, sD, sK) (nI x) (nI s) (nI e) := by
  unfold wpY_ntCount
  exact ⟨R + 1, ly_nt6 hG h24 hn ht hct hx hs he hp R 0 (by omega)⟩
/-- Y's table as it is filled -/
def lc_cf (ct : Nat → Int64) (t : Nat → Nat) : Prop := ∀ j, j < 1352 → ct j = lN (t j)
theorem lc_cf_ct (h8 : nt ≤ 8) (hn : n ≤ 12) (h : lc_cf ct t) : lc_ct ct nt n t := fun x s e hx hs he => h _ (lc_ix_lt (by omega) (by omega) (by omega))
theorem lc_cf_u {i v : Nat} (h : lc_cf ct t) : lc_cf (vp_updL ct i (lN v)) (lc_up t i v) := by
  intro j hj
  unfold vp_updL lc_up
  split
  · rfl
  · exact h j hj
theorem ly_cs13 {post : SY → Prop} {J2 : lc_JY} {s e L : Nat} (hG : lc_G nt tm R q) (h24 : R ≤ 24) (hn : n ≤ 12) (hA : lc_A R q rk) (hk : ∀ x, x < nt → rk x < nt) (hs : s < e) (he : e ≤ n)
    (hJ : ∀ (ct' : Nat → Int64) (t' : Nat → Nat), (∀ j, t' j ≤ 1000000) → lc_cf ct' t' → lc_D q w R nt n rk s e L nt t' → J2 (nI (L + 1)) (lc_ra q 0) (lc_ra q 1) (lc_ra q 2) (lc_ra q 3) w ct' mk pR pS pE pD sS sB sE sD sK) :
    ∀ d x (ct : Nat → Int64) (t : Nat → Nat), x + d = nt → (∀ j, t j ≤ 1000000) → lc_cf ct t → lc_D q w R nt n rk s e L x t → wY_computeSpan_13 post J2 (nI s) (nI e) (nI L) (nI nt) (nI tm) (nI R) (nI n) yP yC yK yM yL yA yB yD yE yF yG (d + 1) (nI x) (lc_ra q 0) (lc_ra q 1) (lc_ra q 2) (lc_ra q 3) w ct mk pR pS pE pD sS sB sE sD sK := by
  intro d
  induction d with
  | zero =>
    intro x ct t hx ht hc hD
    have h8 := hG.1
    obtain rfl : x = nt := by omega
    rw [wY_computeSpan_13]
    exact br_t (nI_le (Nat.le_refl _) (by omega)) (nm_r (nI_1 L) (hJ ct t ht hc hD))
  | succ d ih =>
    intro x ct t hx ht hc hD
    have h8 := hG.1
    have hl := lc_ix_lt (x := x) (s := s) (e := e) (by omega) (by omega) (by omega)
    rw [wY_computeSpan_13]
    refine br_f (nI_ge (by omega) (by omega)) ?_
    refine ly_nt hG h24 hn ht (lc_cf_ct h8 hn hc) (by omega) hs he ?_
    rw [lc_ixN, nI_clamp (by omega)]
    refine ⟨vp_in_nI hl (by omega), nm_e (nm_r (nI_1 x) (ih (x + 1) _ _ (by omega) (lc_up_le ht (lc_n_le _ _ _)) (lc_cf_u hc) ?_))⟩
    refine lc_D_w hG hA hn (by omega) hs he hD ?_
    by_cases z : L ≤ rk x
    · exact Or.inl z
    · exact Or.inr (hD x s e (by omega) hs he (Or.inr (Or.inr ⟨rfl, rfl, Or.inl (by omega)⟩)))
theorem ly_cs2 {post : SY → Prop} {s e : Nat} (hG : lc_G nt tm R q) (h24 : R ≤ 24) (hn : n ≤ 12) (hA : lc_A R q rk) (hk : ∀ x, x < nt → rk x < nt) (hs : s < e) (he : e ≤ n)
    (hp : ∀ (ct' : Nat → Int64) (t' : Nat → Nat), (∀ j, t' j ≤ 1000000) → lc_cf ct' t' → lc_D q w R nt n rk s e (nt + 1) 0 t' → post ((nI nt), (nI tm), (nI R), (nI n), yP, yC, yK, yM, yL, yA, yB, yD, yE, yF, yG, (lc_ra q 0), (lc_ra q 1), (lc_ra q 2), (lc_ra q 3), w, ct', mk, pR, pS, pE, pD, sS, sB, sE, sD, sK)) :
    ∀ d L (ct : Nat → Int64) (t : Nat → Nat), L + d = nt + 1 → (∀ j, t j ≤ 1000000) → lc_cf ct t → lc_D q w R nt n rk s e L 0 t → wY_computeSpan_2 post (nI s) (nI e) (nI nt) (nI tm) (nI R) (nI n) yP yC yK yM yL yA yB yD yE yF yG (d + 1) (nI L) (lc_ra q 0) (lc_ra q 1) (lc_ra q 2) (lc_ra q 3) w ct mk pR pS pE pD sS sB sE sD sK := by
  intro d
  induction d with
  | zero =>
    intro L ct t hx ht hc hD
    have h8 := hG.1
    obtain rfl : L = nt + 1 := by omega
    rw [wY_computeSpan_2]
    exact br_t (nI_lt (by omega) (by omega)) (hp ct t ht hc hD)
  | succ d ih =>
    intro L ct t hx ht hc hD
    have h8 := hG.1
    rw [wY_computeSpan_2]
    refine br_f (nI_nlt (by omega) (by omega)) ⟨nt + 1, ?_⟩
    exact ly_cs13 hG h24 hn hA hk hs he (fun ct' t' ht' hc' hD' => ih (L + 1) ct' t' (by omega) ht' hc' (lc_D_L hD')) nt 0 ct t (by omega) ht hc hD
theorem ly_cs {post : SY → Prop} {s e : Nat} (hG : lc_G nt tm R q) (h24 : R ≤ 24) (hn : n ≤ 12) (hA : lc_A R q rk) (hk : ∀ x, x < nt → rk x < nt) (hs : s < e) (he : e ≤ n) (ht : ∀ j, t j ≤ 1000000) (hc : lc_cf ct t) (hD : lc_D q w R nt n rk s e 0 0 t)
    (hp : ∀ (ct' : Nat → Int64) (t' : Nat → Nat), (∀ j, t' j ≤ 1000000) → lc_cf ct' t' → lc_D q w R nt n rk s e (nt + 1) 0 t' → post ((nI nt), (nI tm), (nI R), (nI n), yP, yC, yK, yM, yL, yA, yB, yD, yE, yF, yG, (lc_ra q 0), (lc_ra q 1), (lc_ra q 2), (lc_ra q 3), w, ct', mk, pR, pS, pE, pD, sS, sB, sE, sD, sK)) : wpY_computeSpan post ((nI nt), (nI tm), (nI R), (nI n), yP, yC, yK, yM, yL, yA, yB, yD, yE, yF, yG, (lc_ra q 0), (lc_ra q 1), (lc_ra q 2), (lc_ra q 3), w, ct, mk, pR, pS, pE, pD, sS, sB, sE, sD, sK) (nI s) (nI e) := by
  unfold wpY_computeSpan
  exact ⟨nt + 1 + 1, ly_cs2 hG h24 hn hA hk hs he hp (nt + 1) 0 ct t (by omega) ht hc hD⟩
abbrev lc_KY : Type := Int32 → Int32 → Int32 → Int32 → Int32 → Int32 → Int32 → Int32 → Int32 → Int32 → Int32 → Int32 → Int32 → Int64 → Int64 → Int64 → (Nat → Int32) → (Nat → Int32) → (Nat → Int32) → (Nat → Int32) → (Nat → Int32) → (Nat → Int64) → (Nat → Int32) → (Nat → Int32) → (Nat → Int32) → (Nat → Int32) → (Nat → Int32) → (Nat → Int32) → (Nat → Int32) → (Nat → Int32) → (Nat → Int32) → (Nat → Int64) → Prop
theorem ly_pa46 {post : Int32 → SY → Prop} {J36 : lc_KY} {l : Nat} (hG : lc_G nt tm R q) (h24 : R ≤ 24) (hn : n ≤ 12) (hA : lc_A R q rk) (hk : ∀ x, x < nt → rk x < nt) (hl : 1 ≤ l)
    (hJ : ∀ (ct' : Nat → Int64) (t' : Nat → Nat), (∀ j, t' j ≤ 1000000) → lc_cf ct' t' → lc_D q w R nt n rk 0 (l + 1) 0 0 t' → J36 (nI (l + 1)) (nI nt) (nI tm) (nI R) (nI n) yP yC yK yM yL yA yB yD yE yF yG (lc_ra q 0) (lc_ra q 1) (lc_ra q 2) (lc_ra q 3) w ct' mk pR pS pE pD sS sB sE sD sK) :
    ∀ d s (ct : Nat → Int64) (t : Nat → Nat), s + l + d = n + 1 → (∀ j, t j ≤ 1000000) → lc_cf ct t → lc_D q w R nt n rk s (s + l) 0 0 t → wY_parse_46 post J36 (nI l) (d + 1) (nI s) (nI nt) (nI tm) (nI R) (nI n) yP yC yK yM yL yA yB yD yE yF yG (lc_ra q 0) (lc_ra q 1) (lc_ra q 2) (lc_ra q 3) w ct mk pR pS pE pD sS sB sE sD sK := by
  intro d
  induction d with
  | zero =>
    intro s ct t hs ht hc hD
    rw [wY_parse_46]
    exact br_t (by rw [nI_add]; exact nI_lt (by omega) (by omega)) (nm_r (nI_1 l) (hJ ct t ht hc (lc_D_r (by omega) hD)))
  | succ d ih =>
    intro s ct t hs ht hc hD
    rw [wY_parse_46]
    refine br_f (by rw [nI_add]; exact nI_nlt (by omega) (by omega)) ?_
    rw [nI_add]
    refine ly_cs hG h24 hn hA hk (by omega) (by omega) ht hc hD (fun ct' t' ht' hc' hD' => nm_r (nI_1 s) ?_)
    refine ih (s + 1) ct' t' (by omega) ht' hc' ?_
    have := lc_D_e hk (by omega) hD' (by omega)
    rw [show s + 1 + l = s + l + 1 by omega]
    exact this
theorem ly_pa36 {post : Int32 → SY → Prop} (hG : lc_G nt tm R q) (h24 : R ≤ 24) (hn : n ≤ 12) (hn0 : 0 < n) (hA : lc_A R q rk) (hk : ∀ x, x < nt → rk x < nt)
    (hp : ∀ (ct' : Nat → Int64) (t' : Nat → Nat), (∀ j, t' j ≤ 1000000) → lc_cf ct' t' → lc_sat q w R nt n t' → post (nI (lc_rt t' n)) ((nI nt), (nI tm), (nI R), (nI n), 1, (nI (lc_rt t' n)), (-1), 0, yL, yA, yB, yD, yE, yF, yG, (lc_ra q 0), (lc_ra q 1), (lc_ra q 2), (lc_ra q 3), w, ct', mk, pR, pS, pE, pD, sS, sB, sE, sD, sK)) :
    ∀ d l (ct : Nat → Int64) (t : Nat → Nat), l + d = n + 1 → 1 ≤ l → (∀ j, t j ≤ 1000000) → lc_cf ct t → lc_D q w R nt n rk 0 l 0 0 t → wY_parse_36 post (d + 1) (nI l) (nI nt) (nI tm) (nI R) (nI n) yP yC yK yM yL yA yB yD yE yF yG (lc_ra q 0) (lc_ra q 1) (lc_ra q 2) (lc_ra q 3) w ct mk pR pS pE pD sS sB sE sD sK := by
  intro d
  induction d with
  | zero =>
    intro l ct t hl h1 ht hc hD
    obtain rfl : l = n + 1 := by omega
    have H := hp ct t ht hc (lc_D_sat hD)
    have ex : lc_ix 0 0 n = n := by unfold lc_ix; omega
    have er : lc_rt t n = t n := by unfold lc_rt; rw [if_neg (by omega), ex]
    rw [er] at H
    rw [wY_parse_36]
    refine br_t (nI_lt (by omega) (by omega)) ⟨vp_in_nI (by omega) (by omega), ?_⟩
    rw [nI_clamp (by omega), hc n (by omega), lN_i]
    exact nm_e H
  | succ d ih =>
    intro l ct t hl h1 ht hc hD
    rw [wY_parse_36]
    refine br_f (nI_nlt (by omega) (by omega)) ⟨n + 1 - l + 1, ?_⟩
    refine ly_pa46 hG h24 hn hA hk h1 (fun ct' t' ht' hc' hD' => ih (l + 1) ct' t' (by omega) (by omega) ht' hc' hD') (n + 1 - l) 0 ct t (by omega) ht hc ?_
    rw [Nat.zero_add]; exact hD
theorem ly_pa2 {post : Int32 → SY → Prop} (hG : lc_G nt tm R q) (h24 : R ≤ 24) (hn : n ≤ 12) (hA : lc_A R q rk) (hk : ∀ x, x < nt → rk x < nt)
    (hp : ∀ (ct' : Nat → Int64) (t' : Nat → Nat), (∀ j, t' j ≤ 1000000) → lc_cf ct' t' → lc_sat q w R nt n t' → post (nI (lc_rt t' n)) ((nI nt), (nI tm), (nI R), (nI n), 1, (nI (lc_rt t' n)), (-1), 0, yL, yA, yB, yD, yE, yF, yG, (lc_ra q 0), (lc_ra q 1), (lc_ra q 2), (lc_ra q 3), w, ct', mk, pR, pS, pE, pD, sS, sB, sE, sD, sK)) :
    ∀ d k (ct : Nat → Int64), k + d = 1352 → (∀ j, j < k → ct j = lN 0) → wY_parse_2 post (nI nt) (nI tm) (nI R) (nI n) yP yC yK yM yL yA yB yD yE yF yG (d + 1) (nI k) (lc_ra q 0) (lc_ra q 1) (lc_ra q 2) (lc_ra q 3) w ct mk pR pS pE pD sS sB sE sD sK := by
  intro d
  induction d with
  | zero =>
    intro k ct hk' hc
    obtain rfl : k = 1352 := by omega
    have hc' : lc_cf ct (fun _ => 0) := hc
    rw [wY_parse_2]
    refine br_t (by decide) ?_
    refine lc_if (lc_0le (by omega)) (fun z => ?_) (fun z => ?_)
    · have H := hp ct (fun _ => 0) (fun _ => by omega) hc' (fun x s e _ h1 h2 => by omega)
      have er : lc_rt (fun _ => 0) n = 0 := if_pos z
      rw [er] at H
      exact H
    · exact ⟨n + 1, ly_pa36 hG h24 hn (by omega) hA hk hp n 1 ct (fun _ => 0) (by omega) (by omega) (fun _ => by omega) hc' lc_D_0⟩
  | succ d ih =>
    intro k ct hk' hc
    rw [wY_parse_2]
    refine br_f (nI_ge (b := 1352) (by omega) (by decide)) ⟨vp_in_nI (by omega) (by omega), nm_e (nm_r (nI_1 k) (ih (k + 1) _ (by omega) ?_))⟩
    intro j hj
    rw [nI_clamp (by omega)]
    by_cases z : j = k
    · subst z; exact pk_uLs
    · rw [pk_uLn z]; exact hc j (by omega)
theorem ly_parse {post : Int32 → SY → Prop} (hG : lc_G nt tm R q) (h24 : R ≤ 24) (hn : n ≤ 12) (hA : lc_A R q rk) (hk : ∀ x, x < nt → rk x < nt)
    (hp : ∀ (ct' : Nat → Int64) (t' : Nat → Nat), (∀ j, t' j ≤ 1000000) → lc_cf ct' t' → lc_sat q w R nt n t' → post (nI (lc_rt t' n)) ((nI nt), (nI tm), (nI R), (nI n), 1, (nI (lc_rt t' n)), (-1), 0, yL, yA, yB, yD, yE, yF, yG, (lc_ra q 0), (lc_ra q 1), (lc_ra q 2), (lc_ra q 3), w, ct', mk, pR, pS, pE, pD, sS, sB, sE, sD, sK)) : wpY_parse post ((nI nt), (nI tm), (nI R), (nI n), yP, yC, yK, yM, yL, yA, yB, yD, yE, yF, yG, (lc_ra q 0), (lc_ra q 1), (lc_ra q 2), (lc_ra q 3), w, ct, mk, pR, pS, pE, pD, sS, sB, sE, sD, sK) := by
  unfold wpY_parse
  exact ⟨1353, ly_pa2 hG h24 hn hA hk hp 1352 0 ct (by omega) (fun j hj => by omega)⟩
end LYB
end
section
section LYC
variable {q : Nat → Nat → Nat} {w : Nat → Int32} {t : Nat → Nat} {nt tm R n : Nat} {rk : Nat → Nat}
/-! the children, as Y makes them -/
theorem lc_last (hG : lc_G nt tm R q) {r j s e k : Nat} (hv : lc_vt q w t R n r j s e k) (h : ∀ i, i < j → q r (3 - i) = 16) : lc_m q w t r j s e k = (e, k) := by
  obtain ⟨kS, -⟩ := lc_vt_S hv
  obtain ⟨hr, hj, hs, he, -, -, -⟩ := hv
  have h0 : ∀ i, s + 1 ≤ i → i < e → lc_mf q w t r j s e i = 0 := by
    intro i a b
    show _ * lc_w q w t r j i e = 0
    rw [lc_w_e h, if_neg (by omega), Nat.mul_zero]
  rw [lc_S_last h0 (by omega)] at kS
  unfold lc_m
  obtain ⟨d, hd⟩ : ∃ d, e - s = d + 1 := ⟨e - s - 1, by omega⟩
  have e1 : s + 1 + d = e := by omega
  rw [hd, lc_f_skip d (s + 1) k (fun i a b => h0 i a (by omega)) (by rw [e1]; exact kS), e1]
theorem lc_kd_l (hG : lc_G nt tm R q) {r j s e k d : Nat} (hv : lc_vt q w t R n r j s e k) (h : ∀ i, i < j → q r (3 - i) = 16) : lc_kd q w t r (j + 1) s e k d = lc_k1 (q r (3 - j)) s e k d := by
  rw [lc_kd_s, lc_last hG hv h]
  show lc_k1 (q r (3 - j)) s e (k / lc_w q w t r j e e) d ++ (if e < e then _ else []) = _
  rw [lc_w_e h, if_pos rfl, Nat.div_one, if_neg (by omega), List.append_nil]
theorem lc_m_lt (hG : lc_G nt tm R q) {r j s e k : Nat} (hv : lc_vt q w t R n r (j + 1) s e k) (h : ¬ q r (3 - j) = 16) : (lc_m q w t r (j + 1) s e k).1 < e := by
  obtain ⟨m1, m2, m3, m4⟩ := lc_m_ok hG hv
  refine Nat.lt_of_le_of_ne m2 ?_
  intro z
  rw [z, lc_w_z h, Nat.mul_zero] at m3
  omega
theorem lc_kd_n (hG : lc_G nt tm R q) {r j s e k d : Nat} (hv : lc_vt q w t R n r (j + 1) s e k) (h : ¬ q r (3 - j) = 16) : lc_kd q w t r (j + 1 + 1) s e k d = lc_k1 (q r (3 - (j + 1))) s (lc_m q w t r (j + 1) s e k).1 ((lc_m q w t r (j + 1) s e k).2 / lc_w q w t r (j + 1) (lc_m q w t r (j + 1) s e k).1 e) d ++ lc_kd q w t r (j + 1) (lc_m q w t r (j + 1) s e k).1 e ((lc_m q w t r (j + 1) s e k).2 % lc_w q w t r (j + 1) (lc_m q w t r (j + 1) s e k).1 e) d ∧ lc_vt q w t R n r j (lc_m q w t r (j + 1) s e k).1 e ((lc_m q w t r (j + 1) s e k).2 % lc_w q w t r (j + 1) (lc_m q w t r (j + 1) s e k).1 e) := by
  obtain ⟨m1, m2, m3, m4⟩ := lc_m_ok hG hv
  have hlt := lc_m_lt hG hv h
  obtain ⟨j', e1, hv'⟩ := lc_m_nx hG hv m1 hlt m3 m4
  obtain rfl : j = j' := by omega
  exact ⟨by rw [lc_kd_s, if_pos hlt], hv'⟩
/-! entries in arrays -/
def lc_ys (sS sB sE sD : Nat → Int32) (sK : Nat → Int64) : List lc_E → Prop
  | [] => True
  | (x, s, e, k, d) :: l => (sS l.length = nI x ∧ sB l.length = nI s ∧ sE l.length = nI e ∧ sD l.length = nI d ∧ sK l.length = lN k) ∧ lc_ys sS sB sE sD sK l
theorem lc_ys_u {sS sB sE sD : Nat → Int32} {sK : Nat → Int64} {a b c d : Int32} {f : Int64} : ∀ {l : List lc_E} {i : Nat}, lc_ys sS sB sE sD sK l → l.length ≤ i → lc_ys (upd sS i a) (upd sB i b) (upd sE i c) (upd sD i d) (vp_updL sK i f) l := by
  intro l
  induction l with
  | nil => intro i _ _; exact True.intro
  | cons x l ih =>
    intro i h hi
    obtain ⟨y, s, e, k, d'⟩ := x
    have hl : l.length + 1 ≤ i := hi
    have hne : l.length ≠ i := by omega
    obtain ⟨⟨h1, h2, h3, h4, h5⟩, h7⟩ := h
    refine ⟨⟨?_, ?_, ?_, ?_, ?_⟩, ih h7 (by omega)⟩
    · rw [pk_un hne]; exact h1
    · rw [pk_un hne]; exact h2
    · rw [pk_un hne]; exact h3
    · rw [pk_un hne]; exact h4
    · rw [pk_uLn hne]; exact h5
theorem lc_mu_len (l : List lc_E) (h : lc_ev t nt n l) : l.length ≤ lc_mu rk l := by
  induction l with
  | nil => exact Nat.le_refl 0
  | cons a l ih =>
    obtain ⟨x, s, e, k, d⟩ := a
    have h1 := ih h.2
    have h2 := h.1.2.1
    rw [lc_mu_c]
    show l.length + 1 ≤ _
    omega
variable {yP yC yK yM yL yA yB yD : Int32} {yE yF yG : Int64} {ct sK : Nat → Int64} {mk pR pS pE pD sS sB sE sD : Nat → Int32}
theorem ly_push {post : SY → Prop} {c s e k d : Nat} {st : List lc_E} (hc : c < 16) (hl : st.length < 256) (hy : lc_ys sS sB sE sD sK st)
    (hp : ∀ sS' sB' sE' sD' sK', lc_ys sS' sB' sE' sD' sK' (lc_k1 c s e k d ++ st) → post ((nI nt), (nI tm), (nI R), (nI n), yP, yC, yK, yM, (nI (lc_k1 c s e k d ++ st).length), yA, yB, yD, yE, yF, yG, (lc_ra q 0), (lc_ra q 1), (lc_ra q 2), (lc_ra q 3), w, ct, mk, pR, pS, pE, pD, sS', sB', sE', sD', sK')) :
    wpY_push post ((nI nt), (nI tm), (nI R), (nI n), yP, yC, yK, yM, (nI st.length), yA, yB, yD, yE, yF, yG, (lc_ra q 0), (lc_ra q 1), (lc_ra q 2), (lc_ra q 3), w, ct, mk, pR, pS, pE, pD, sS, sB, sE, sD, sK) (nI c) (nI s) (nI e) (lN k) (nI d) := by
  unfold wpY_push
  refine br_f (nI_pos (by omega)) (pk_le 8 c (fun z => ?_) (fun z => ?_))
  · have e1 : lc_k1 c s e k d = [] := if_neg (by omega)
    rw [e1, List.nil_append] at hp
    exact hp _ _ _ _ _ hy
  · have e1 : lc_k1 c s e k d = [(c, s, e, k, d)] := if_pos z
    rw [e1, List.cons_append, List.nil_append] at hp
    have hi : vp_in (nI st.length) 256 := vp_in_nI hl (by omega)
    have hcl : (nI st.length).toNatClampNeg = st.length := nI_clamp (by omega)
    refine br_t (nI_lt (b := 256) hl (by decide)) ⟨hi, nm_r (e' := upd sS st.length (nI c)) (by rw [hcl]) ⟨hi, nm_r (e' := upd sB st.length (nI s)) (by rw [hcl]) ⟨hi, nm_r (e' := upd sE st.length (nI e)) (by rw [hcl]) ⟨hi, nm_r (e' := vp_updL sK st.length (lN k)) (by rw [hcl]) ⟨hi, nm_r (e' := upd sD st.length (nI d)) (by rw [hcl]) (nm_r (nI_1 _) ?_)⟩⟩⟩⟩⟩
    exact hp _ _ _ _ _ ⟨⟨pk_us, pk_us, pk_us, pk_us, pk_uLs⟩, lc_ys_u hy (Nat.le_refl _)⟩
/-- the found place's rank, in longs -/
theorem lc_dr {b c : Nat} (hb : b < 1000000) (hc : 0 < c) (hc2 : c ≤ 1000000) : lN b / lN c = lN (b / c) ∧ lN b - lN b / lN c * lN c = lN (b % c) ∧ ¬ lN c = 0 ∧ ¬ lN c ≤ 0 := by
  refine ⟨pk_lDiv (by omega) hc (by omega), pk_lRem (by omega) hc (by omega), ?_, ?_⟩
  · intro z
    have := (pk_lEQ (a := c) (b := 0) (by omega) (by omega)).mp z
    omega
  · intro z
    have := (pk_lLE (a := c) (b := 0) (by omega) (by omega)).mp z
    omega
theorem lc_lle {a b : Nat} (ha : a < 2 ^ 62) (hb : b < 2 ^ 62) : lN a ≤ lN b ↔ a ≤ b := pk_lLE (by omega) (by omega)
theorem ly_ch376 {post : SY → Prop} {r s e k : Nat} (hG : lc_G nt tm R q) (h24 : R ≤ 24) (hn : n ≤ 12) (ht : ∀ j, t j ≤ 1000000) (hct : lc_ct ct nt n t) (hr : r < R) (h2 : ¬ q r 2 = 16) (h3 : ¬ q r 3 = 16) (he : e ≤ n)
    (hp : post ((nI nt), (nI tm), (nI R), (nI n), yP, yC, yK, yM, yL, yA, yB, (nI (lc_m q w t r 1 s e k).1), yE, (lN ((lc_m q w t r 1 s e k).2 / lc_w q w t r 1 (lc_m q w t r 1 s e k).1 e)), (lN ((lc_m q w t r 1 s e k).2 % lc_w q w t r 1 (lc_m q w t r 1 s e k).1 e)), (lc_ra q 0), (lc_ra q 1), (lc_ra q 2), (lc_ra q 3), w, ct, mk, pR, pS, pE, pD, sS, sB, sE, sD, sK)) :
    ∀ D i b, i + D = e + 1 → s + 1 ≤ i → lc_f (lc_mf q w t r 1 s e) D i b = lc_m q w t r 1 s e k → b < lc_S (lc_mf q w t r 1 s e) i (e + 1) → b < 1000000 → wY_choose_376 post (nI e) (nI r) (nI s) (nI nt) (nI tm) (nI R) (nI n) yP yC yK yM yL yA yB yD yE yF yG (lc_ra q 0) (lc_ra q 1) (lc_ra q 2) (lc_ra q 3) w ct mk pR pS pE pD sS sB sE sD sK (D + 1) (lN b) (nI i) := by
  intro D
  induction D with
  | zero =>
    intro i b hi hs hf hb hb2
    rw [lc_S_0 (by omega)] at hb
    omega
  | succ D ih =>
    intro i b hi hs hf hb hb2
    have r2 := lc_G_r hG hr 2 (by omega)
    have r3 := lc_G_r hG hr 3 (by omega)
    by_cases hie : i = e
    · exfalso
      subst hie
      rw [lc_S_s (Nat.le_refl _), lc_S_0 (Nat.le_refl _)] at hb
      have : lc_mf q w t r 1 s i i = 0 := by
        show _ * lc_w q w t r (0 + 1) i i = 0
        rw [lc_w_z h3, Nat.mul_zero]
      omega
    · have hv : vp_in (nI r) 24 := vp_in_nI (by omega) (by omega)
      have e2 : lc_ra q 2 r = nI (q r 2) := lc_cd_n h2
      have e3 : lc_ra q 3 r = nI (q r 3) := lc_cd_n h3
      have ew : lc_w q w t r 1 i e = lc_y w t (q r 3) i e := lc_w_l (j := 0) ht (fun i hi => by omega) h3 (by omega)
      have hmf : lc_mf q w t r 1 s e i = lc_y w t (q r 2) s i * lc_y w t (q r 3) i e := by rw [← ew]; rfl
      have y1 := lc_y_le (w := w) ht (q r 2) s i
      have y2 := lc_y_le (w := w) ht (q r 3) i e
      have hm : lc_y w t (q r 2) s i * lc_y w t (q r 3) i e ≤ 1000000 * 1000000 := Nat.mul_le_mul y1 y2
      rw [wY_choose_376]
      refine br_f (nI_ge (by omega) (by omega)) ⟨hv, ?_⟩
      rw [nI_clamp (by omega), e2, e3]
      refine ly_sym hG.1 hn hct (by omega) (lc_G_8 hG hr 2 (by omega)) (by omega) (by omega) ⟨hv, ?_⟩
      refine ly_sym hG.1 hn hct (by omega) (lc_G_8 hG hr 3 (by omega)) (by omega) he ?_
      refine nm_r (lN_mul _ _) ?_
      refine lc_if (lc_lle (by omega) (by omega)) (fun z => ?_) (fun z => ?_)
      · have hnl : ¬ b < lc_mf q w t r 1 s e i := by omega
        rw [lc_f_n hnl] at hf
        have hb' := lc_S_sub hnl (by omega) hb
        rw [hmf] at hf hb'
        exact nm_r (lN_sub z) (nm_r (nI_1 i) (ih (i + 1) _ (by omega) (by omega) hf hb' (by omega)))
      · have hl : b < lc_mf q w t r 1 s e i := by omega
        have hc0 := (lc_mp (a := lc_y w t (q r 2) s i) (b := lc_y w t (q r 3) i e) (by omega)).2
        obtain ⟨d1, d2, d3, d4⟩ := lc_dr hb2 hc0 y2
        rw [lc_f_t hl] at hf
        rw [← hf] at hp
        refine br_f d4 ⟨d3, nm_r d1 ⟨d3, nm_r d2 ?_⟩⟩
        rw [← ew]
        exact hp
theorem ly_ch146 {post : SY → Prop} {r s e k : Nat} (hG : lc_G nt tm R q) (h24 : R ≤ 24) (hn : n ≤ 12) (ht : ∀ j, t j ≤ 1000000) (hct : lc_ct ct nt n t) (hr : r < R) (h2 : ¬ q r 2 = 16) (h3 : q r 3 = 16) (he : e ≤ n)
    (hp : post ((nI nt), (nI tm), (nI R), (nI n), yP, yC, yK, yM, yL, yA, (nI (lc_m q w t r 2 s e k).1), yD, (lN ((lc_m q w t r 2 s e k).2 / lc_w q w t r 2 (lc_m q w t r 2 s e k).1 e)), (lN ((lc_m q w t r 2 s e k).2 % lc_w q w t r 2 (lc_m q w t r 2 s e k).1 e)), yG, (lc_ra q 0), (lc_ra q 1), (lc_ra q 2), (lc_ra q 3), w, ct, mk, pR, pS, pE, pD, sS, sB, sE, sD, sK)) :
    ∀ D i b, i + D = e + 1 → s + 1 ≤ i → lc_f (lc_mf q w t r 2 s e) D i b = lc_m q w t r 2 s e k → b < lc_S (lc_mf q w t r 2 s e) i (e + 1) → b < 1000000 → wY_choose_146 post (nI s) (nI e) (nI r) (nI nt) (nI tm) (nI R) (nI n) yP yC yK yM yL yA yB yD yE yF yG (lc_ra q 0) (lc_ra q 1) (lc_ra q 2) (lc_ra q 3) w ct mk pR pS pE pD sS sB sE sD sK (D + 1) (lN b) (nI i) := by
  intro D
  induction D with
  | zero =>
    intro i b hi hs hf hb hb2
    rw [lc_S_0 (by omega)] at hb
    omega
  | succ D ih =>
    intro i b hi hs hf hb hb2
    have r1 := lc_G_r hG hr 1 (by omega)
    have r2 := lc_G_r hG hr 2 (by omega)
    have h1 := (lc_G_16 hG hr).1
    by_cases hie : i = e
    · exfalso
      subst hie
      rw [lc_S_s (Nat.le_refl _), lc_S_0 (Nat.le_refl _)] at hb
      have : lc_mf q w t r 2 s i i = 0 := by
        show _ * lc_w q w t r (1 + 1) i i = 0
        rw [lc_w_z h2, Nat.mul_zero]
      omega
    · have hv : vp_in (nI r) 24 := vp_in_nI (by omega) (by omega)
      have e1 : lc_ra q 1 r = nI (q r 1) := lc_cd_n h1
      have e2 : lc_ra q 2 r = nI (q r 2) := lc_cd_n h2
      have ew : lc_w q w t r 2 i e = lc_y w t (q r 2) i e := lc_w_l (j := 1) ht (fun i hi => by obtain rfl : i = 0 := (by omega); exact h3) h2 (by omega)
      have hmf : lc_mf q w t r 2 s e i = lc_y w t (q r 1) s i * lc_y w t (q r 2) i e := by rw [← ew]; rfl
      have y1 := lc_y_le (w := w) ht (q r 1) s i
      have y2 := lc_y_le (w := w) ht (q r 2) i e
      have hm : lc_y w t (q r 1) s i * lc_y w t (q r 2) i e ≤ 1000000 * 1000000 := Nat.mul_le_mul y1 y2
      rw [wY_choose_146]
      refine br_f (nI_ge (by omega) (by omega)) ⟨hv, ?_⟩
      rw [nI_clamp (by omega), e1, e2]
      refine ly_sym hG.1 hn hct (by omega) (lc_G_8 hG hr 1 (by omega)) (by omega) (by omega) ⟨hv, ?_⟩
      refine ly_sym hG.1 hn hct (by omega) (lc_G_8 hG hr 2 (by omega)) (by omega) he ?_
      refine nm_r (lN_mul _ _) ?_
      refine lc_if (lc_lle (by omega) (by omega)) (fun z => ?_) (fun z => ?_)
      · have hnl : ¬ b < lc_mf q w t r 2 s e i := by omega
        rw [lc_f_n hnl] at hf
        have hb' := lc_S_sub hnl (by omega) hb
        rw [hmf] at hf hb'
        exact nm_r (lN_sub z) (nm_r (nI_1 i) (ih (i + 1) _ (by omega) (by omega) hf hb' (by omega)))
      · have hl : b < lc_mf q w t r 2 s e i := by omega
        have hc0 := (lc_mp (a := lc_y w t (q r 1) s i) (b := lc_y w t (q r 2) i e) (by omega)).2
        obtain ⟨d1, d2, d3, d4⟩ := lc_dr hb2 hc0 y2
        rw [lc_f_t hl] at hf
        rw [← hf] at hp
        refine br_f d4 ⟨d3, nm_r d1 ⟨d3, nm_r d2 ?_⟩⟩
        rw [← ew]
        exact hp
theorem ly_ch253 {post : SY → Prop} {r s e k : Nat} (hG : lc_G nt tm R q) (h24 : R ≤ 24) (hn : n ≤ 12) (ht : ∀ j, t j ≤ 1000000) (hct : lc_ct ct nt n t) (hr : r < R) (h2 : ¬ q r 2 = 16) (h3 : ¬ q r 3 = 16) (he : e ≤ n)
    (hp : wY_choose_358 post (nI e) (lN ((lc_m q w t r 2 s e k).2 % lc_w q w t r 2 (lc_m q w t r 2 s e k).1 e)) (nI r) (nI (lc_m q w t r 2 s e k).1) (nI nt) (nI tm) (nI R) (nI n) yP yC yK yM yL yA yB yD (lN ((lc_m q w t r 2 s e k).2 / lc_w q w t r 2 (lc_m q w t r 2 s e k).1 e)) yF yG (lc_ra q 0) (lc_ra q 1) (lc_ra q 2) (lc_ra q 3) w ct mk pR pS pE pD sS sB sE sD sK) :
    ∀ D i b, i + D = e + 1 → s + 1 ≤ i → lc_f (lc_mf q w t r 2 s e) D i b = lc_m q w t r 2 s e k → b < lc_S (lc_mf q w t r 2 s e) i (e + 1) → b < 1000000 → wY_choose_253 post (nI s) (nI e) (nI r) (-1) (nI nt) (nI tm) (nI R) (nI n) yP yC yK yM yL yA yB yD yE yF yG (lc_ra q 0) (lc_ra q 1) (lc_ra q 2) (lc_ra q 3) w ct mk pR pS pE pD sS sB sE sD sK (D + 1) (lN b) (nI i) := by
  intro D
  induction D with
  | zero =>
    intro i b hi hs hf hb hb2
    rw [lc_S_0 (by omega)] at hb
    omega
  | succ D ih =>
    intro i b hi hs hf hb hb2
    have r1 := lc_G_r hG hr 1 (by omega)
    have r2 := lc_G_r hG hr 2 (by omega)
    have r3 := lc_G_r hG hr 3 (by omega)
    have h1 := (lc_G_16 hG hr).1
    have ze : lc_mf q w t r 2 s e e = 0 := by
      show _ * lc_w q w t r (1 + 1) e e = 0
      rw [lc_w_z h2, Nat.mul_zero]
    have zp : i + 1 = e → lc_mf q w t r 2 s e i = 0 := by
      intro z
      show _ * lc_w q w t r (0 + 1 + 1) i e = 0
      rw [lc_w_m h2 h3 (by omega), lc_S_0 (by omega), lc_cp_0, Nat.mul_zero]
    by_cases hie : e ≤ i + 1
    · exfalso
      by_cases z : i + 1 = e
      · rw [lc_S_s (by omega), ze, ← z, lc_S_s (Nat.le_refl _), lc_S_0 (Nat.le_refl _)] at hb
        have := zp z
        rw [← z] at this
        omega
      · obtain rfl : i = e := by omega
        rw [lc_S_s (Nat.le_refl _), lc_S_0 (Nat.le_refl _), ze] at hb
        omega
    · have hv : vp_in (nI r) 24 := vp_in_nI (by omega) (by omega)
      have e1 : lc_ra q 1 r = nI (q r 1) := lc_cd_n h1
      have e2 : lc_ra q 2 r = nI (q r 2) := lc_cd_n h2
      have e3 : lc_ra q 3 r = nI (q r 3) := lc_cd_n h3
      have ee : nI e - 1 = nI (e - 1) := pk_sub (b := 1) (by omega)
      have hmf : lc_mf q w t r 2 s e i = lc_y w t (q r 1) s i * lc_w q w t r 2 i e := rfl
      have y1 := lc_y_le (w := w) ht (q r 1) s i
      have y2 := lc_w_le (q := q) (w := w) (t := t) (r := r) 2 i e
      have hm : lc_y w t (q r 1) s i * lc_w q w t r 2 i e ≤ 1000000 * 1000000 := Nat.mul_le_mul y1 y2
      rw [wY_choose_253]
      refine br_f (by rw [ee]; exact nI_ge (by omega) (by omega)) ⟨hv, ?_⟩
      rw [nI_clamp (by omega), e1, e2, e3]
      refine ly_sym hG.1 hn hct (by omega) (lc_G_8 hG hr 1 (by omega)) (by omega) (by omega) ⟨hv, hv, ?_⟩
      refine ly_tc hG hn ht hct hr h2 h3 (by omega) he ?_
      refine nm_r (lN_mul _ _) ?_
      refine lc_if (lc_lle (by omega) (by omega)) (fun z => ?_) (fun z => ?_)
      · have hnl : ¬ b < lc_mf q w t r 2 s e i := by omega
        rw [lc_f_n hnl] at hf
        have hb' := lc_S_sub hnl (by omega) hb
        rw [hmf] at hf hb'
        exact nm_r (lN_sub z) (nm_r (nI_1 i) (ih (i + 1) _ (by omega) (by omega) hf hb' (by omega)))
      · have hl : b < lc_mf q w t r 2 s e i := by omega
        have hc0 := (lc_mp (a := lc_y w t (q r 1) s i) (b := lc_w q w t r 2 i e) (by omega)).2
        obtain ⟨d1, d2, d3, d4⟩ := lc_dr hb2 hc0 y2
        rw [lc_f_t hl] at hf
        rw [← hf] at hp
        exact br_f d4 ⟨d3, nm_r d1 ⟨d3, nm_r d2 hp⟩⟩
/-- what choose finds for rule r, rank b in the rule -/
theorem ly_ch97 {post : SY → Prop} {r s e b : Nat} (hG : lc_G nt tm R q) (h24 : R ≤ 24) (hn : n ≤ 12) (ht : ∀ j, t j ≤ 1000000) (hct : lc_ct ct nt n t) (hv : lc_vt q w t R n r 2 s e b)
    (h1 : q r 2 = 16 → post ((nI nt), (nI tm), (nI R), (nI n), yP, yC, yK, yM, yL, (nI r), yB, yD, (lN b), yF, yG, (lc_ra q 0), (lc_ra q 1), (lc_ra q 2), (lc_ra q 3), w, ct, mk, pR, pS, pE, pD, sS, sB, sE, sD, sK))
    (h2 : ¬ q r 2 = 16 → q r 3 = 16 → post ((nI nt), (nI tm), (nI R), (nI n), yP, yC, yK, yM, yL, (nI r), (nI (lc_m q w t r 2 s e b).1), yD, (lN ((lc_m q w t r 2 s e b).2 / lc_w q w t r 2 (lc_m q w t r 2 s e b).1 e)), (lN ((lc_m q w t r 2 s e b).2 % lc_w q w t r 2 (lc_m q w t r 2 s e b).1 e)), yG, (lc_ra q 0), (lc_ra q 1), (lc_ra q 2), (lc_ra q 3), w, ct, mk, pR, pS, pE, pD, sS, sB, sE, sD, sK))
    (h3 : ¬ q r 2 = 16 → ¬ q r 3 = 16 → ∀ m1 b1, (m1, b1) = lc_m q w t r 2 s e b → ∀ m2 b2, (m2, b2) = lc_m q w t r 1 m1 e (b1 % lc_w q w t r 2 m1 e) → post ((nI nt), (nI tm), (nI R), (nI n), yP, yC, yK, yM, yL, (nI r), (nI m1), (nI m2), (lN (b1 / lc_w q w t r 2 m1 e)), (lN (b2 / lc_w q w t r 1 m2 e)), (lN (b2 % lc_w q w t r 1 m2 e)), (lc_ra q 0), (lc_ra q 1), (lc_ra q 2), (lc_ra q 3), w, ct, mk, pR, pS, pE, pD, sS, sB, sE, sD, sK)) :
    wY_choose_97 post (nI s) (nI e) (lN b) (nI nt) (nI tm) (nI R) (nI n) yP yC yK yM yL (nI r) yB yD yE yF yG (lc_ra q 0) (lc_ra q 1) (lc_ra q 2) (lc_ra q 3) w ct mk pR pS pE pD sS sB sE sD sK := by
  obtain ⟨kS, kC⟩ := lc_vt_S hv
  have hv' := hv
  obtain ⟨hr, -, hs, he, -, -, -⟩ := hv'
  have r2 := lc_G_r hG hr 2 (by omega)
  have r3 := lc_G_r hG hr 3 (by omega)
  have hvi : vp_in (nI r) 24 := vp_in_nI (by omega) (by omega)
  unfold wY_choose_97
  refine br_f (lc_m1 (by omega)) ⟨hvi, ?_⟩
  rw [nI_clamp (by omega)]
  refine lc_if (c := lc_ra q 2 r = -1) (lc_cd_e r2) h1 (fun z2 => ⟨hvi, ?_⟩)
  refine lc_if (c := lc_ra q 3 r = -1) (lc_cd_e r3) (fun z3 => ?_) (fun z3 => ?_)
  · refine nm_r (nI_1 s) ⟨e - s + 1, ?_⟩
    exact ly_ch146 hG h24 hn ht hct hr z2 z3 he (h2 z2 z3) (e - s) (s + 1) b (by omega) (Nat.le_refl _) rfl kS (by omega)
  · refine nm_r (nI_1 s) ⟨e - s + 1, ?_⟩
    obtain ⟨m1, m2, m3, m4⟩ := lc_m_ok hG hv
    obtain ⟨-, hv1⟩ := lc_kd_n (d := 0) (j := 1) hG hv z2
    obtain ⟨kS1, kC1⟩ := lc_vt_S hv1
    refine ly_ch253 (k := b) hG h24 hn ht hct hr z2 z3 he ?_ (e - s) (s + 1) b (by omega) (Nat.le_refl _) rfl kS (by omega)
    unfold wY_choose_358
    have hlt := hv1.2.2.1
    refine br_t (nI_pos' (by omega)) (nm_r (nI_1 _) ⟨e - (lc_m q w t r 2 s e b).1 + 1, ?_⟩)
    exact ly_ch376 hG h24 hn ht hct hr z2 z3 he (h3 z2 z3 _ _ rfl _ _ rfl) (e - (lc_m q w t r 2 s e b).1) ((lc_m q w t r 2 s e b).1 + 1) _ (by omega) (Nat.le_refl _) rfl kS1 (Nat.lt_trans kS1 kC1)
theorem ly_ch37 {post : SY → Prop} {x s e k : Nat} (hG : lc_G nt tm R q) (h24 : R ≤ 24) (hn : n ≤ 12) (ht : ∀ j, t j ≤ 1000000) (hct : lc_ct ct nt n t) (hx : x < 8) (hs : s < e) (he : e ≤ n)
    (hp : wY_choose_97 post (nI s) (nI e) (lN (lc_pk q w t R x s e k).2) (nI nt) (nI tm) (nI R) (nI n) yP yC yK yM yL (nI (lc_pk q w t R x s e k).1) yB yD yE yF yG (lc_ra q 0) (lc_ra q 1) (lc_ra q 2) (lc_ra q 3) w ct mk pR pS pE pD sS sB sE sD sK) :
    ∀ D i b, i + D = R → lc_f (lc_g q w t x s e) D i b = lc_pk q w t R x s e k → b < lc_S (lc_g q w t x s e) i R → b < 1000000 → wY_choose_37 post (nI x) (nI s) (nI e) (nI nt) (nI tm) (nI R) (nI n) yP yC yK yM yL yA yB yD yE yF yG (lc_ra q 0) (lc_ra q 1) (lc_ra q 2) (lc_ra q 3) w ct mk pR pS pE pD sS sB sE sD sK (D + 1) (lN b) (nI i) := by
  intro D
  induction D with
  | zero =>
    intro i b hi hf hb hb2
    rw [lc_S_0 (by omega)] at hb
    omega
  | succ D ih =>
    intro i b hi hf hb hb2
    have hr : i < R := by omega
    have h0 := (hG.2.2 i hr).1
    have h8 := hG.1
    have e0 : lc_ra q 0 i = nI (q i 0) := lc_cd_n (by omega)
    rw [wY_choose_37]
    refine br_f (nI_ge hr (by omega)) ⟨vp_in_nI (by omega) (by omega), ?_⟩
    rw [nI_clamp (by omega), e0]
    refine pk_eq (q i 0) x (fun z => ?_) (fun z => ?_)
    · refine ly_rs hG h24 hn ht hct hr hs he ?_
      have eg : lc_g q w t x s e i = lc_w q w t i 3 s e := if_pos z
      have hw := lc_w_le (q := q) (w := w) (t := t) (r := i) 3 s e
      refine lc_if (lc_lle (by omega) (by omega)) (fun y => ?_) (fun y => ?_)
      · have hnl : ¬ b < lc_g q w t x s e i := by omega
        rw [lc_f_n hnl] at hf
        have hb' := lc_S_sub hnl hr hb
        rw [eg] at hf hb'
        exact nm_r (lN_sub y) (nm_r (nI_1 i) (ih (i + 1) _ (by omega) hf hb' (by omega)))
      · have hl : b < lc_g q w t x s e i := by omega
        rw [lc_f_t hl] at hf
        rw [← hf] at hp
        exact hp
    · have eg : lc_g q w t x s e i = 0 := if_neg z
      have hnl : ¬ b < lc_g q w t x s e i := by omega
      rw [lc_f_n hnl] at hf
      have hb' := lc_S_sub hnl hr hb
      rw [eg, Nat.sub_zero] at hf hb'
      exact nm_r (nI_1 i) (ih (i + 1) b (by omega) hf hb' hb2)
theorem ly_choose {post : SY → Prop} {x s e k : Nat} (hG : lc_G nt tm R q) (h24 : R ≤ 24) (hn : n ≤ 12) (ht : ∀ j, t j ≤ 1000000) (hct : lc_ct ct nt n t) (hS : lc_sat q w R nt n t) (hv : lc_ve t nt n x s e k)
    (h1 : ∀ r b, (r, b) = lc_pk q w t R x s e k → q r 2 = 16 → post ((nI nt), (nI tm), (nI R), (nI n), yP, yC, yK, yM, yL, (nI r), (nI e), (nI e), (lN b), 0, 0, (lc_ra q 0), (lc_ra q 1), (lc_ra q 2), (lc_ra q 3), w, ct, mk, pR, pS, pE, pD, sS, sB, sE, sD, sK))
    (h2 : ∀ r b, (r, b) = lc_pk q w t R x s e k → ¬ q r 2 = 16 → q r 3 = 16 → post ((nI nt), (nI tm), (nI R), (nI n), yP, yC, yK, yM, yL, (nI r), (nI (lc_m q w t r 2 s e b).1), (nI e), (lN ((lc_m q w t r 2 s e b).2 / lc_w q w t r 2 (lc_m q w t r 2 s e b).1 e)), (lN ((lc_m q w t r 2 s e b).2 % lc_w q w t r 2 (lc_m q w t r 2 s e b).1 e)), 0, (lc_ra q 0), (lc_ra q 1), (lc_ra q 2), (lc_ra q 3), w, ct, mk, pR, pS, pE, pD, sS, sB, sE, sD, sK))
    (h3 : ∀ r b, (r, b) = lc_pk q w t R x s e k → ¬ q r 2 = 16 → ¬ q r 3 = 16 → ∀ m1 b1, (m1, b1) = lc_m q w t r 2 s e b → ∀ m2 b2, (m2, b2) = lc_m q w t r 1 m1 e (b1 % lc_w q w t r 2 m1 e) → post ((nI nt), (nI tm), (nI R), (nI n), yP, yC, yK, yM, yL, (nI r), (nI m1), (nI m2), (lN (b1 / lc_w q w t r 2 m1 e)), (lN (b2 / lc_w q w t r 1 m2 e)), (lN (b2 % lc_w q w t r 1 m2 e)), (lc_ra q 0), (lc_ra q 1), (lc_ra q 2), (lc_ra q 3), w, ct, mk, pR, pS, pE, pD, sS, sB, sE, sD, sK)) :
    wpY_choose post ((nI nt), (nI tm), (nI R), (nI n), yP, yC, yK, yM, yL, yA, yB, yD, yE, yF, yG, (lc_ra q 0), (lc_ra q 1), (lc_ra q 2), (lc_ra q 3), w, ct, mk, pR, pS, pE, pD, sS, sB, sE, sD, sK) (nI x) (nI s) (nI e) (lN k) := by
  unfold wpY_choose
  have h8 := hG.1
  obtain ⟨kS, kC⟩ := lc_ve_S hS hv
  obtain ⟨p1, p2⟩ := lc_pk_ok hG hS hv
  obtain ⟨v1, v2, v3, -, -⟩ := hv
  refine ⟨R + 1, ly_ch37 (k := k) hG h24 hn ht hct (by omega) v2 v3 ?_ R 0 k (by omega) rfl kS kC⟩
  exact ly_ch97 hG h24 hn ht hct p2 (h1 _ _ rfl) (h2 _ _ rfl) (h3 _ _ rfl)
end LYC
end
section
section LYD
variable {q : Nat → Nat → Nat} {w : Nat → Int32} {t : Nat → Nat} {nt tm R n : Nat} {rk : Nat → Nat}
variable {yP yC yK yM yL yA yB yD : Int32} {yE yF yG : Int64} {ct sK : Nat → Int64} {mk pR pS pE pD sS sB sE sD : Nat → Int32}
theorem ly_se56 {post : Int32 → SY → Prop} {rank : Int32} {Lf : List lc_N} (hG : lc_G nt tm R q) (h24 : R ≤ 24) (hn : n ≤ 12) (ht : ∀ j, t j ≤ 1000000) (hct : lc_ct ct nt n t) (hS : lc_sat q w R nt n t) (hA : lc_A R q rk) (hk : ∀ x, x < nt → rk x < nt)
    (hp : ∀ (yL' yA' yB' yD' : Int32) (yE' yF' yG' : Int64) (pR' pS' pE' pD' sS' sB' sE' sD' : Nat → Int32) (sK' : Nat → Int64), lc_nd pR' pS' pE' pD' Lf → post (nI Lf.length) ((nI nt), (nI tm), (nI R), (nI n), yP, yC, rank, (nI Lf.length), yL', yA', yB', yD', yE', yF', yG', (lc_ra q 0), (lc_ra q 1), (lc_ra q 2), (lc_ra q 3), w, ct, mk, pR', pS', pE', pD', sS', sB', sE', sD', sK')) :
    ∀ N f (out : List lc_N) (st : List lc_E) (yA yB yD : Int32) (yE yF yG : Int64) (pR pS pE pD sS sB sE sD : Nat → Int32) (sK : Nat → Int64), lc_ev t nt n st → lc_nd pR pS pE pD out → lc_ys sS sB sE sD sK st → out.length + lc_mu rk st ≤ 256 → lc_mu rk st ≤ f → lc_mu rk st < N → out ++ lc_run q w t R f st = Lf → wY_selectTree_56 post rank N (nI out.length) (nI out.length) (nI nt) (nI tm) (nI R) (nI n) yP yC yK yM (nI st.length) yA yB yD yE yF yG (lc_ra q 0) (lc_ra q 1) (lc_ra q 2) (lc_ra q 3) w ct mk pR pS pE pD sS sB sE sD sK := by
  intro N
  induction N with
  | zero => intro f out st yA yB yD yE yF yG pR pS pE pD sS sB sE sD sK _ _ _ _ _ h; omega
  | succ N ih =>
    intro f out st yA yB yD yE yF yG pR pS pE pD sS sB sE sD sK hev hnd hys hmu hf hN hL
    cases st with
    | nil =>
      rw [lc_run_n, List.append_nil] at hL
      subst hL
      have H := hp (nI 0) yA yB yD yE yF yG pR pS pE pD sS sB sE sD sK hnd
      rw [wY_selectTree_56]
      refine br_c (fun _ => H) (fun _ => br_t ?_ H)
      show nI 0 ≤ 0
      decide
    | cons a st =>
      obtain ⟨x, s, e, k, d⟩ := a
      obtain ⟨o1, o2⟩ := lc_en_ok hG hA hk hS hev
      have hlen0 := lc_mu_len (rk := rk) _ o1
      have hlen : (lc_kd q w t (lc_pk q w t R x s e k).1 3 s e (lc_pk q w t R x s e k).2 (d + 1) ++ st).length ≤ 255 := Nat.le_trans hlen0 (by omega)
      clear hlen0
      obtain ⟨hve, hev'⟩ := hev
      obtain ⟨p1, p2⟩ := lc_pk_ok hG hS hve
      obtain ⟨⟨g1, g2, g3, g4, g5⟩, hys'⟩ := hys
      have hse := hve.2.1
      have hmu2 : 2 ≤ lc_mu rk ((x, s, e, k, d) :: st) := by rw [lc_mu_c]; omega
      obtain ⟨f', rfl⟩ : ∃ f', f = f' + 1 := ⟨f - 1, by omega⟩
      rw [lc_run_s] at hL
      rw [List.length_append] at hlen
      have hi : vp_in (nI st.length) 256 := vp_in_nI (by omega) (by omega)
      have hcl : (nI st.length).toNatClampNeg = st.length := nI_clamp (by omega)
      have hio : vp_in (nI out.length) 256 := vp_in_nI (by omega) (by omega)
      have hcl2 : (nI out.length).toNatClampNeg = out.length := nI_clamp (by omega)
      rw [← hcl] at g1 g2 g3 g4 g5
      rw [wY_selectTree_56]
      refine br_f (nI_ge (b := 256) (by omega) (by decide)) (br_f (nI_nle (n := st.length + 1) (by omega) (by omega)) ?_)
      refine nm_r (nI_pred st.length) ⟨hi, nm_r g2 ⟨hi, nm_r g3 ⟨hi, nm_r g4 ⟨hi, hi, ?_⟩⟩⟩⟩
      rw [g1, g5]
      have H : ∀ r b, (r, b) = lc_pk q w t R x s e k → ∀ (st2 : List lc_E), st2 = lc_kd q w t r 3 s e b (d + 1) ++ st → ∀ (yA yB yD : Int32) (yE yF yG : Int64) (sS sB sE sD : Nat → Int32) (sK : Nat → Int64), lc_ys sS sB sE sD sK st2 → wY_selectTree_56 post rank N (nI (out.length + 1)) (nI (out.length + 1)) (nI nt) (nI tm) (nI R) (nI n) yP yC yK yM (nI st2.length) yA yB yD yE yF yG (lc_ra q 0) (lc_ra q 1) (lc_ra q 2) (lc_ra q 3) w ct mk (upd pR out.length (nI r)) (upd pS out.length (nI s)) (upd pE out.length (nI e)) (upd pD out.length (nI d)) sS sB sE sD sK := by
        intro r b hrb st2 hst2 yA yB yD yE yF yG sS sB sE sD sK hy
        rw [← hrb] at hL o1 o2
        dsimp only at hL o1 o2
        rw [← hst2] at hL o1 o2
        have H := ih f' (out ++ [(r, s, e, d)]) st2 yA yB yD yE yF yG _ _ _ _ sS sB sE sD sK o1 (lc_nd_a hnd) hy ?_ (by omega) (by omega) ?_
        · rw [List.length_append] at H
          exact H
        · rw [List.length_append]
          show out.length + 1 + _ ≤ 256
          omega
        · rw [← hL, List.append_assoc]
          rfl
      have e1 : nI d + 1 = nI (d + 1) := nI_1 d
      refine ly_choose hG h24 hn ht hct hS hve (fun r b hrb z2 => ?_) (fun r b hrb z2 z3 => ?_) (fun r b hrb z2 z3 m1 b1 hm1 m2 b2 hm2 => ?_)
      · have H1 := H r b hrb
        rw [← hrb] at p2 hlen
        dsimp only at p2 hlen
        have hr := p2.1
        have h1 := (lc_G_16 hG hr).1
        have r1 := lc_G_r hG hr 1 (by omega)
        have h3 := (lc_G_16 hG hr).2 z2
        have hv24 : vp_in (nI r) 24 := vp_in_nI (by omega) (by omega)
        have ek : lc_kd q w t r 3 s e b (d + 1) = lc_k1 (q r 1) s e b (d + 1) := lc_kd_l (j := 2) hG p2 (fun i hi => by
          have : i = 0 ∨ i = 1 := by omega
          rcases this with rfl | rfl
          · exact h3
          · exact z2)
        rw [ek] at H1 hlen
        refine ⟨hio, nm_r (e' := upd pR out.length (nI r)) (by rw [hcl2]) ⟨hio, nm_r (e' := upd pS out.length (nI s)) (by rw [hcl2]) ⟨hio, nm_r (e' := upd pE out.length (nI e)) (by rw [hcl2]) ⟨hio, nm_r (e' := upd pD out.length (nI d)) (by rw [hcl2]) (nm_r (nI_1 _) (br_t (nI_pos' (by omega)) ⟨hv24, ?_⟩))⟩⟩⟩⟩
        rw [nI_clamp (n := r) (by omega)]
        refine br_t (show lc_cd (q r 2) = -1 by rw [z2]; exact lc_cd_16) ⟨hv24, ?_⟩
        have ea : lc_ra q 1 r = nI (q r 1) := lc_cd_n h1
        rw [ea, e1]
        refine ly_push (by omega) (by omega) hys' (fun sS' sB' sE' sD' sK' hy' => nm_r (nI_1 _) ?_)
        exact H1 _ rfl _ _ _ _ _ _ _ _ _ _ _ hy'
      · have H1 := H r b hrb
        rw [← hrb] at p2 hlen
        dsimp only at p2 hlen
        have hr := p2.1
        have h1 := (lc_G_16 hG hr).1
        have r1 := lc_G_r hG hr 1 (by omega)
        have r2 := lc_G_r hG hr 2 (by omega)
        have hv24 : vp_in (nI r) 24 := vp_in_nI (by omega) (by omega)
        obtain ⟨k1, hv1⟩ := lc_kd_n (d := d + 1) (j := 1) hG p2 z2
        have k2 := lc_kd_l (d := d + 1) (j := 1) hG hv1 (fun i hi => by obtain rfl : i = 0 := (by omega); exact z3)
        have ek : lc_kd q w t r 3 s e b (d + 1) = lc_k1 (q r 1) s (lc_m q w t r 2 s e b).1 ((lc_m q w t r 2 s e b).2 / lc_w q w t r 2 (lc_m q w t r 2 s e b).1 e) (d + 1) ++ lc_k1 (q r 2) (lc_m q w t r 2 s e b).1 e ((lc_m q w t r 2 s e b).2 % lc_w q w t r 2 (lc_m q w t r 2 s e b).1 e) (d + 1) := k1.trans (congrArg _ k2)
        rw [ek] at H1 hlen
        rw [List.append_assoc] at H1
        rw [List.length_append] at hlen
        refine ⟨hio, nm_r (e' := upd pR out.length (nI r)) (by rw [hcl2]) ⟨hio, nm_r (e' := upd pS out.length (nI s)) (by rw [hcl2]) ⟨hio, nm_r (e' := upd pE out.length (nI e)) (by rw [hcl2]) ⟨hio, nm_r (e' := upd pD out.length (nI d)) (by rw [hcl2]) (nm_r (nI_1 _) (br_t (nI_pos' (by omega)) ⟨hv24, ?_⟩))⟩⟩⟩⟩
        rw [nI_clamp (n := r) (by omega)]
        refine br_f (fun z => z2 ((lc_cd_e r2).mp z)) ⟨hv24, br_t (show lc_cd (q r 3) = -1 by rw [z3]; exact lc_cd_16) ⟨hv24, ?_⟩⟩
        have ea : lc_ra q 1 r = nI (q r 1) := lc_cd_n h1
        have eb : lc_ra q 2 r = nI (q r 2) := lc_cd_n z2
        rw [eb, e1]
        refine ly_push (by omega) (by omega) hys' (fun sS' sB' sE' sD' sK' hy' => ⟨hv24, ?_⟩)
        rw [ea]
        refine ly_push (by omega) (by rw [List.length_append]; omega) hy' (fun sS2 sB2 sE2 sD2 sK2 hy2 => nm_r (nI_1 _) ?_)
        exact H1 _ rfl _ _ _ _ _ _ _ _ _ _ _ hy2
      · have H1 := H r b hrb
        rw [← hrb] at p2 hlen
        dsimp only at p2 hlen
        have hr := p2.1
        have h1 := (lc_G_16 hG hr).1
        have r1 := lc_G_r hG hr 1 (by omega)
        have r2 := lc_G_r hG hr 2 (by omega)
        have r3 := lc_G_r hG hr 3 (by omega)
        have hv24 : vp_in (nI r) 24 := vp_in_nI (by omega) (by omega)
        obtain ⟨k1, hv1⟩ := lc_kd_n (d := d + 1) (j := 1) hG p2 z2
        have em1 : lc_m q w t r (1 + 1) s e b = (m1, b1) := hm1.symm
        rw [em1] at k1 hv1
        dsimp only at k1 hv1
        obtain ⟨k2, hv2⟩ := lc_kd_n (d := d + 1) (j := 0) hG hv1 z3
        have em2 : lc_m q w t r (0 + 1) m1 e (b1 % lc_w q w t r (1 + 1) m1 e) = (m2, b2) := hm2.symm
        rw [em2] at k2 hv2
        dsimp only at k2 hv2
        have k3 := lc_kd_l (d := d + 1) (j := 0) hG hv2 (fun i hi => by omega)
        have ek : lc_kd q w t r 3 s e b (d + 1) = lc_k1 (q r 1) s m1 (b1 / lc_w q w t r 2 m1 e) (d + 1) ++ (lc_k1 (q r 2) m1 m2 (b2 / lc_w q w t r 1 m2 e) (d + 1) ++ lc_k1 (q r 3) m2 e (b2 % lc_w q w t r 1 m2 e) (d + 1)) := k1.trans (congrArg _ (k2.trans (congrArg _ k3)))
        rw [ek] at H1 hlen
        rw [List.append_assoc, List.append_assoc] at H1
        rw [List.length_append, List.length_append] at hlen
        refine ⟨hio, nm_r (e' := upd pR out.length (nI r)) (by rw [hcl2]) ⟨hio, nm_r (e' := upd pS out.length (nI s)) (by rw [hcl2]) ⟨hio, nm_r (e' := upd pE out.length (nI e)) (by rw [hcl2]) ⟨hio, nm_r (e' := upd pD out.length (nI d)) (by rw [hcl2]) (nm_r (nI_1 _) (br_t (nI_pos' (by omega)) ⟨hv24, ?_⟩))⟩⟩⟩⟩
        rw [nI_clamp (n := r) (by omega)]
        refine br_f (fun z => z2 ((lc_cd_e r2).mp z)) ⟨hv24, br_f (fun z => z3 ((lc_cd_e r3).mp z)) ⟨hv24, ?_⟩⟩
        have ea : lc_ra q 1 r = nI (q r 1) := lc_cd_n h1
        have eb : lc_ra q 2 r = nI (q r 2) := lc_cd_n z2
        have ec : lc_ra q 3 r = nI (q r 3) := lc_cd_n z3
        rw [ec, e1]
        refine ly_push (by omega) (by omega) hys' (fun sS' sB' sE' sD' sK' hy' => ⟨hv24, ?_⟩)
        rw [eb]
        refine ly_push (by omega) (by rw [List.length_append]; omega) hy' (fun sS2 sB2 sE2 sD2 sK2 hy2 => ⟨hv24, ?_⟩)
        rw [ea]
        refine ly_push (by omega) (by rw [List.length_append, List.length_append]; omega) hy2 (fun sS3 sB3 sE3 sD3 sK3 hy3 => nm_r (nI_1 _) ?_)
        exact H1 _ rfl _ _ _ _ _ _ _ _ _ _ _ hy3
theorem ly_select {post : Int32 → SY → Prop} {c k : Nat} (hG : lc_G nt tm R q) (h24 : R ≤ 24) (h1 : 1 ≤ nt) (hn : n ≤ 12) (ht : ∀ j, t j ≤ 1000000) (hct : lc_ct ct nt n t) (hS : lc_sat q w R nt n t) (hA : lc_A R q rk) (hk : ∀ x, x < nt → rk x < nt) (hc : c = lc_rt t n) (hC : c < 1000000) (hkc : k < c)
    (hp : ∀ (yL' yA' yB' yD' : Int32) (yE' yF' yG' : Int64) (pR' pS' pE' pD' sS' sB' sE' sD' : Nat → Int32) (sK' : Nat → Int64), lc_nd pR' pS' pE' pD' (lc_tree q w t R n k) → post (nI (lc_tree q w t R n k).length) ((nI nt), (nI tm), (nI R), (nI n), 1, (nI c), (nI k), (nI (lc_tree q w t R n k).length), yL', yA', yB', yD', yE', yF', yG', (lc_ra q 0), (lc_ra q 1), (lc_ra q 2), (lc_ra q 3), w, ct, mk, pR', pS', pE', pD', sS', sB', sE', sD', sK')) :
    wpY_selectTree post ((nI nt), (nI tm), (nI R), (nI n), 1, (nI c), yK, yM, yL, yA, yB, yD, yE, yF, yG, (lc_ra q 0), (lc_ra q 1), (lc_ra q 2), (lc_ra q 3), w, ct, mk, pR, pS, pE, pD, sS, sB, sE, sD, sK) (nI k) := by
  have hv := lc_root h1 hc hC hkc
  have hk0 := hk 0 h1
  have h8 := hG.1
  have hv' := hv
  obtain ⟨v1, v2, v3, -, -⟩ := hv'
  unfold wpY_selectTree
  refine br_f (by decide) (br_f ?_ (br_f (nI_pos (by omega)) (br_t (nI_lt hkc (by omega)) ?_)))
  · intro z
    have := (nI_eq (a := c) (b := 1000000) (by omega) (by decide)).mp z
    omega
  · rw [nI_l (by omega)]
    refine ly_push (c := 0) (s := 0) (e := n) (k := k) (d := 0) (st := []) (by omega) (by decide) True.intro (fun sS' sB' sE' sD' sK' hy => ⟨257, ?_⟩)
    have hmu : lc_mu rk [(0, 0, n, k, 0)] = 17 * (n - 0) - 15 + rk 0 + 0 := rfl
    refine ly_se56 (Lf := lc_tree q w t R n k) (rk := rk) hG h24 hn ht hct hS hA hk hp 257 256 [] [(0, 0, n, k, 0)] yA yB yD yE yF yG pR pS pE pD sS' sB' sE' sD' sK' ⟨hv, True.intro⟩ lc_nd_0 hy ?_ ?_ ?_ rfl
    · rw [hmu]; show 0 + _ ≤ 256; omega
    · rw [hmu]; omega
    · rw [hmu]; omega
end LYD
end
section
section LCR0
/-- what holds of both objects between calls -/
def lc_I (nt tm R n : Nat) (q : Nat → Nat → Nat) (w : Nat → Int32) (t : Nat → Nat) (ct : Nat → Int64) (P C K : Int32) (M : Nat) (oR oS oE oD pR pS pE pD : Nat → Int32) : Prop :=
  1 ≤ nt ∧ lc_G nt tm R q ∧ R ≤ 24 ∧ n ≤ 12 ∧ (∃ rk, lc_A R q rk) ∧ (∀ j, t j ≤ 1000000) ∧ (P = 0 ∨ (P = 1 ∧ C = nI (lc_rt t n) ∧ lc_sat q w R nt n t ∧ lc_ct ct nt n t)) ∧ M ≤ 196 ∧ (K = -1 → M = 0) ∧ ∀ j, j < M → oR j = pR j ∧ oS j = pS j ∧ oE j = pE j ∧ oD j = pD j
def i_Rel (_ : Nat) (u : SX) (v : SY) : Prop :=
  ∃ (nt tm R n : Nat) (q : Nat → Nat → Nat) (w : Nat → Int32) (t : Nat → Nat) (P C K : Int32) (M : Nat) (xL : Int32) (ul wy oR oS oE oD gR gP gS gE gK gD : Nat → Int32) (yL yA yB yD : Int32) (yE yF yG : Int64) (ct : Nat → Int64) (mk pR pS pE pD sS sB sE sD : Nat → Int32) (sK : Nat → Int64),
    u = ((nI nt), (nI tm), (nI R), (nI n), P, C, K, (nI M), xL, (lc_rc q), w, ul, (lc_tr t), wy, oR, oS, oE, oD, gR, gP, gS, gE, gK, gD) ∧ v = ((nI nt), (nI tm), (nI R), (nI n), P, C, K, (nI M), yL, yA, yB, yD, yE, yF, yG, (lc_ra q 0), (lc_ra q 1), (lc_ra q 2), (lc_ra q 3), w, ct, mk, pR, pS, pE, pD, sS, sB, sE, sD, sK) ∧ lc_I nt tm R n q w t ct P C K M oR oS oE oD pR pS pE pD
theorem i_up {k : Nat} {u : SX} {v : SY} (h : i_Rel k u v) : i_Rel (k + 5) u v := h
theorem lc_rel {k nt tm R n : Nat} {q : Nat → Nat → Nat} {w : Nat → Int32} {t : Nat → Nat} {P C K : Int32} {M : Nat} {xL : Int32} {ul wy oR oS oE oD gR gP gS gE gK gD : Nat → Int32} {yL yA yB yD : Int32} {yE yF yG : Int64} {ct : Nat → Int64} {mk pR pS pE pD sS sB sE sD : Nat → Int32} {sK : Nat → Int64} (h : lc_I nt tm R n q w t ct P C K M oR oS oE oD pR pS pE pD) : i_Rel k ((nI nt), (nI tm), (nI R), (nI n), P, C, K, (nI M), xL, (lc_rc q), w, ul, (lc_tr t), wy, oR, oS, oE, oD, gR, gP, gS, gE, gK, gD) ((nI nt), (nI tm), (nI R), (nI n), P, C, K, (nI M), yL, yA, yB, yD, yE, yF, yG, (lc_ra q 0), (lc_ra q 1), (lc_ra q 2), (lc_ra q 3), w, ct, mk, pR, pS, pE, pD, sS, sB, sE, sD, sK) :=
  ⟨nt, tm, R, n, q, w, t, P, C, K, M, xL, ul, wy, oR, oS, oE, oD, gR, gP, gS, gE, gK, gD, yL, yA, yB, yD, yE, yF, yG, ct, mk, pR, pS, pE, pD, sS, sB, sE, sD, sK, rfl, rfl, h⟩
/-- clamped -/
theorem lc_clamp (x : Int32) : ∃ m : Nat, 1 ≤ m ∧ m ≤ 8 ∧ ∀ F : Int32 → Prop, F (nI m) → ((1 ≤ x → ((x ≤ 8 → F x) ∧ (¬ x ≤ 8 → F 8))) ∧ (¬ 1 ≤ x → F 1)) := by
  by_cases h1 : 1 ≤ x
  · by_cases h8 : x ≤ 8
    · have h0 : ¬ x < 0 := fun z => absurd (Int32.lt_of_le_of_lt h1 z) (by decide)
      obtain ⟨j, hj, rfl⟩ := nI_of2 (n := 8) (M := 8) (by decide) h0 h8
      refine ⟨j, ?_, hj, fun F hF => br_t h1 (br_t h8 hF)⟩
      exact (nI_leI (a := 1) (b := j) (by omega) (by omega)).mp h1
    · exact ⟨8, by omega, by omega, fun F hF => br_t h1 (br_f h8 hF)⟩
  · exact ⟨1, by omega, by omega, fun F hF => br_f h1 hF⟩
theorem lx_clamp {x : Int32} {m : Nat} (h : ∀ F : Int32 → Prop, F (nI m) → ((1 ≤ x → ((x ≤ 8 → F x) ∧ (¬ x ≤ 8 → F 8))) ∧ (¬ 1 ≤ x → F 1))) {post : Int32 → Prop} (hp : post (nI m)) : wpX_clampKinds post x := h post hp
theorem ly_169 {x : Int32} {m : Nat} (h : ∀ F : Int32 → Prop, F (nI m) → ((1 ≤ x → ((x ≤ 8 → F x) ∧ (¬ x ≤ 8 → F 8))) ∧ (¬ 1 ≤ x → F 1))) {post : SY → Prop} {z yN yT yR yH yP yC yK yM yL yA yB yD : Int32} {yE yF yG : Int64} {ct sK : Nat → Int64} {la ra rb rd yk mk pR pS pE pD sS sB sE sD : Nat → Int32} (hp : post (z, (nI m), yR, yH, yP, yC, yK, yM, yL, yA, yB, yD, yE, yF, yG, la, ra, rb, rd, yk, ct, mk, pR, pS, pE, pD, sS, sB, sE, sD, sK)) : wY_init_169 post x z yN yT yR yH yP yC yK yM yL yA yB yD yE yF yG la ra rb rd yk ct mk pR pS pE pD sS sB sE sD sK := h (fun y => post (z, y, yR, yH, yP, yC, yK, yM, yL, yA, yB, yD, yE, yF, yG, la, ra, rb, rd, yk, ct, mk, pR, pS, pE, pD, sS, sB, sE, sD, sK)) hp
theorem lc_rc00 : lc_rc (fun _ _ => 0) = fun _ => 0 := rfl
theorem i_vc0 (k0 : Int32) (k1 : Int32) : wpX_init (fun u => wpY_init (fun v => i_Rel 2 u v) k0 k1) k0 k1 := by
  obtain ⟨a, a1, a8, hA⟩ := lc_clamp k0
  obtain ⟨b, b1, b8, hB⟩ := lc_clamp k1
  unfold wpX_init
  refine lx_clamp hA (lx_clamp hB ?_)
  unfold wpY_init
  refine hA (fun z => wY_init_169 _ k1 z _ _ _ _ _ _ _ _ _ _ _ _ _ _ _ _ _ _ _ _ _ _ _ _ _ _ _ _ _ _ _) ?_
  refine ly_169 hB ?_
  exact lc_rel (nt := a) (tm := b) (R := 0) (n := 0) (q := fun _ _ => 0) (w := fun _ => 0) (t := fun _ => 0) (M := 0) ⟨a1, ⟨a8, b8, fun r hr => by omega⟩, by omega, by omega, ⟨fun _ => 0, fun r hr => by omega⟩, fun _ => Nat.zero_le _, Or.inl rfl, by omega, fun _ => rfl, fun j hj => by omega⟩
end LCR0
end
section
section LCR1
theorem lc_fm_Fm {nt tm l a b c : Nat} {p0 p1 p2 p3 : Int32} (h : lc_fm nt tm l a b c) (e0 : p0 = nI l) (e1 : p1 = nI a) (e2 : p2 = lc_cd b) (e3 : p3 = lc_cd c) : lc_Fm nt tm p0 p1 p2 p3 := ⟨l, a, b, c, h, e0, e1, e2, e3⟩
theorem lc_cd_i {b c : Nat} (hb : b ≤ 16) (hc : c ≤ 16) (h : lc_cd b = lc_cd c) : b = c := by
  by_cases z : c = 16
  · subst z
    rw [lc_cd_16] at h
    exact (lc_cd_e hb).mp h
  · by_cases y : b = 16
    · subst y
      rw [lc_cd_16] at h
      exact ((lc_cd_e hc).mp h.symm).symm
    · rw [lc_cd_n z, lc_cd_n y] at h
      exact (nI_eq (by omega) (by omega)).mp h
theorem lc_fm_16 {nt tm l a b c : Nat} (h8 : nt ≤ 8) (t8 : tm ≤ 8) (h : lc_fm nt tm l a b c) : l < 8 ∧ a < 16 ∧ b ≤ 16 ∧ c ≤ 16 := by
  unfold lc_fm lc_va at h; omega
theorem lc_G_add {nt tm R l a b c : Nat} {q : Nat → Nat → Nat} (hG : lc_G nt tm R q) (h : lc_fm nt tm l a b c) : lc_G nt tm (R + 1) (lc_add q R l a b c) := by
  refine ⟨hG.1, hG.2.1, fun r hr => ?_⟩
  unfold lc_gr
  by_cases z : r = R
  · subst z
    rw [lc_add_0, lc_add_1, lc_add_2, lc_add_3]
    exact h
  · have hr' : r < R := by omega
    rw [lc_add_lo hr', lc_add_lo hr', lc_add_lo hr', lc_add_lo hr']
    exact hG.2.2 r hr'
theorem i_vc_addRule {k : Nat} {u : SX} {v : SY} (I : i_Rel k u v) (hk : k + 5 ≤ 2562) (v1 : Int32) (v2 : Int32) (v3 : Int32) (v4 : Int32) : wpX_addRule (fun r u' => wpY_addRule (fun r' v' => r' = r ∧ i_Rel (k + 5) u' v') v v1 v2 v3 v4) u v1 v2 v3 v4 := by
  obtain ⟨nt, tm, R, n, q, w, t, P, C, K, M, xL, ul, wy, oR, oS, oE, oD, gR, gP, gS, gE, gK, gD, yL, yA, yB, yD, yE, yF, yG, ct, mk, pR, pS, pE, pD, sS, sB, sE, sD, sK, rfl, rfl, hI⟩ := I
  have hI' := hI
  obtain ⟨h1, hG, h24, hn, ⟨rk, hA⟩, ht, hP, hM, hK, hN⟩ := hI'
  have h8 := hG.1
  have t8 := hG.2.1
  refine lx_addRule hG h24 (fun hF => ?_) (fun hF hR => ?_) (fun l a hf e0 e1 e2 e3 hR ha hc => ?_) (fun l a b c hf e0 e1 e2 e3 hR hc => ?_)
  · refine ly_addRule hG h24 (fun _ => ⟨rfl, lc_rel hI⟩) (fun z => absurd z hF) (fun l a hf e0 e1 e2 e3 => ?_) (fun l a b c hf e0 e1 e2 e3 => absurd (lc_fm_Fm hf e0 e1 e2 e3) hF)
    exact absurd (lc_fm_Fm hf e0 e1 (e2.trans lc_cd_16.symm) (e3.trans lc_cd_16.symm)) hF
  · refine ly_addRule hG h24 (fun z => absurd hF z) (fun _ _ => ⟨rfl, lc_rel hI⟩) (fun l a hf e0 e1 e2 e3 hR' => ?_) (fun l a b c hf e0 e1 e2 e3 hR' => ?_)
    · omega
    · omega
  · have hF := lc_fm_Fm hf e0 e1 (e2.trans lc_cd_16.symm) (e3.trans lc_cd_16.symm)
    refine ly_addRule hG h24 (fun z => absurd hF z) (fun _ hR' => ?_) (fun l' a' hf' e0' e1' e2' e3' hR' ha' hc' mk' => ⟨rfl, lc_rel hI⟩) (fun l' a' b' c' hf' e0' e1' e2' e3' hR' hc' mk' => ?_)
    · omega
    · exfalso
      obtain ⟨q1, q2, q3, q4⟩ := lc_fm_16 h8 t8 hf
      obtain ⟨q1', q2', q3', q4'⟩ := lc_fm_16 h8 t8 hf'
      have hb : b' = 16 := (lc_cd_e q3').mp (e2'.symm.trans e2)
      have hl : l' = l := (nI_eq (by omega) (by omega)).mp (e0'.symm.trans e0)
      have ha2 : a' = a := (nI_eq (by omega) (by omega)).mp (e1'.symm.trans e1)
      subst hl ha2
      have := hc' hb ha
      rw [hc] at this
      exact absurd this (by decide)
  · have hF := lc_fm_Fm hf e0 e1 e2 e3
    obtain ⟨q1, q2, q3, q4⟩ := lc_fm_16 h8 t8 hf
    refine ly_addRule hG h24 (fun z => absurd hF z) (fun _ hR' => ?_) (fun l' a' hf' e0' e1' e2' e3' hR' ha' hc' mk' => ?_) (fun l' a' b' c' hf' e0' e1' e2' e3' hR' hc' mk' => ?_)
    · omega
    · exfalso
      obtain ⟨q1', q2', q3', q4'⟩ := lc_fm_16 h8 t8 hf'
      have hb : b = 16 := (lc_cd_e q3).mp (e2.symm.trans e2')
      have hl : l' = l := (nI_eq (by omega) (by omega)).mp (e0'.symm.trans e0)
      have ha2 : a' = a := (nI_eq (by omega) (by omega)).mp (e1'.symm.trans e1)
      subst hl ha2
      have := hc hb ha'
      rw [hc'] at this
      exact absurd this (by decide)
    · obtain ⟨q1', q2', q3', q4'⟩ := lc_fm_16 h8 t8 hf'
      have hl : l' = l := (nI_eq (by omega) (by omega)).mp (e0'.symm.trans e0)
      have ha2 : a' = a := (nI_eq (by omega) (by omega)).mp (e1'.symm.trans e1)
      have hb2 : b' = b := lc_cd_i q3' q3 (e2'.symm.trans e2)
      have hc2 : c' = c := lc_cd_i q4' q4 (e3'.symm.trans e3)
      subst hl ha2 hb2 hc2
      refine ⟨rfl, lc_rel (M := 0) ⟨h1, lc_G_add hG hf, by omega, hn, ?_, ht, Or.inl rfl, by omega, fun _ => rfl, fun j hj => by omega⟩⟩
      refine lc_A_add hA (fun ha hb => ?_)
      have han : a' < nt := by
        rcases hf.2.1 with z | z
        · exact z
        · omega
      exact ⟨lc_co true q R nt a', lc_it_cl han (by simp) (fun r hr => (hG.2.2 r hr).1), lc_it_sub (by simp) nt, hc hb han⟩
end LCR1
end
section
section LCR2
theorem i_vc_ruleCount {k : Nat} {u : SX} {v : SY} (I : i_Rel k u v) (hk : k + 5 ≤ 2562) : wpX_ruleCount (fun r => wpY_ruleCount (fun r' => r' = r ∧ i_Rel (k + 5) u v) v) u := by
  have J : i_Rel (k + 5) u v := i_up I
  obtain ⟨nt, tm, R, n, q, w, t, P, C, K, M, xL, ul, wy, oR, oS, oE, oD, gR, gP, gS, gE, gK, gD, yL, yA, yB, yD, yE, yF, yG, ct, mk, pR, pS, pE, pD, sS, sB, sE, sD, sK, rfl, rfl, hI⟩ := I
  exact ⟨rfl, J⟩
theorem i_vc_ruleSymbol {k : Nat} {u : SX} {v : SY} (I : i_Rel k u v) (hk : k + 5 ≤ 2562) (v1 : Int32) (v2 : Int32) : wpX_ruleSymbol (fun r => wpY_ruleSymbol (fun r' => r' = r ∧ i_Rel (k + 5) u v) v v1 v2) u v1 v2 := by
  have J : i_Rel (k + 5) u v := i_up I
  obtain ⟨nt, tm, R, n, q, w, t, P, C, K, M, xL, ul, wy, oR, oS, oE, oD, gR, gP, gS, gE, gK, gD, yL, yA, yB, yD, yE, yF, yG, ct, mk, pR, pS, pE, pD, sS, sB, sE, sD, sK, rfl, rfl, hI⟩ := I
  obtain ⟨-, -, h24, -, -, -, -, -, -, -⟩ := hI
  unfold wpX_ruleSymbol
  refine br_c (fun h => ?_) (fun h => br_c (fun h' => ?_) (fun h' => ?_))
  · exact br_t h ⟨rfl, J⟩
  · exact br_f h (br_f (Int32.not_lt.mpr h') ⟨rfl, J⟩)
  · rcases pk_ix v1 (n := R) (by omega) with z | z | ⟨r, hr, rfl⟩
    · exact absurd z h
    · exact absurd z h'
    · have hv : vp_in (nI r) 24 := vp_in_nI (by omega) (by omega)
      have hc : (nI r).toNatClampNeg = r := nI_clamp (by omega)
      have hlt : nI r < nI R := nI_lt hr (by omega)
      refine br_c (fun y => ?_) (fun y => br_c (fun y' => ?_) (fun y' => ?_))
      · refine br_f h (br_t hlt (br_f ?_ (br_f ?_ (br_f ?_ (br_f ?_ ⟨rfl, J⟩)))))
        · rintro rfl; exact absurd y (by decide)
        · rintro rfl; exact absurd y (by decide)
        · rintro rfl; exact absurd y (by decide)
        · rintro rfl; exact absurd y (by decide)
      · obtain ⟨p, hp, rfl⟩ := nI_of2 (n := 3) (M := 3) (by decide) y y'
        have ei : nI r * 4 + nI p = nI (r * 4 + p) := by rw [lc_x4, nI_add]
        rw [ei, nI_clamp (by omega), lc_rc_p (by omega)]
        refine ⟨vp_in_nI (by omega) (by omega), br_f h (br_t hlt ?_)⟩
        rw [hc]
        have : p = 0 ∨ p = 1 ∨ p = 2 ∨ p = 3 := by omega
        rcases this with rfl | rfl | rfl | rfl
        · exact br_t rfl ⟨hv, rfl, J⟩
        · exact br_f (by decide) (br_t rfl ⟨hv, rfl, J⟩)
        · exact br_f (by decide) (br_f (by decide) (br_t rfl ⟨hv, rfl, J⟩))
        · exact br_f (by decide) (br_f (by decide) (br_f (by decide) (br_t rfl ⟨hv, rfl, J⟩)))
      · refine br_f h (br_t hlt (br_f ?_ (br_f ?_ (br_f ?_ (br_f ?_ ⟨rfl, J⟩)))))
        · rintro rfl; exact y' (by decide)
        · rintro rfl; exact y' (by decide)
        · rintro rfl; exact y' (by decide)
        · rintro rfl; exact y' (by decide)
theorem i_vc_isLeftCorner {k : Nat} {u : SX} {v : SY} (I : i_Rel k u v) (hk : k + 5 ≤ 2562) (v1 : Int32) (v2 : Int32) : wpX_isLeftCorner (fun r => wpY_isLeftCorner (fun r' v' => r' = r ∧ i_Rel (k + 5) u v') v v1 v2) u v1 v2 := by
  obtain ⟨nt, tm, R, n, q, w, t, P, C, K, M, xL, ul, wy, oR, oS, oE, oD, gR, gP, gS, gE, gK, gD, yL, yA, yB, yD, yE, yF, yG, ct, mk, pR, pS, pE, pD, sS, sB, sE, sD, sK, rfl, rfl, hI⟩ := I
  have hI' := hI
  obtain ⟨h1, hG, h24, hn, -, ht, hP, hM, hK, hN⟩ := hI'
  have h8 := hG.1
  have t8 := hG.2.1
  refine lx_isLC hG h24 (fun h => ?_) (fun a b ha hb e0 e1 => ?_)
  · refine ly_isLC hG h24 (fun _ => ⟨rfl, lc_rel hI⟩) (fun a b ha hb e0 e1 => ?_)
    exact absurd ⟨⟨a, ha, e0⟩, ⟨b, hb, e1⟩⟩ h
  · refine ly_isLC hG h24 (fun h => ?_) (fun a' b' ha' hb' e0' e1' mk' => ?_)
    · exact absurd ⟨⟨a, ha, e0⟩, ⟨b, hb, e1⟩⟩ h
    · have q1 := lc_va_16 h8 t8 hb
      have q2 := lc_va_16 h8 t8 hb'
      have ea : a' = a := (nI_eq (by omega) (by omega)).mp (e0'.symm.trans e0)
      have eb : b' = b := (nI_eq (by omega) (by omega)).mp (e1'.symm.trans e1)
      subst ea eb
      exact ⟨rfl, lc_rel hI⟩
end LCR2
end
section
section LCR3
theorem i_vc_addToken {k : Nat} {u : SX} {v : SY} (I : i_Rel k u v) (hk : k + 5 ≤ 2562) (v1 : Int32) : wpX_addToken (fun r u' => wpY_addToken (fun r' v' => r' = r ∧ i_Rel (k + 5) u' v') v v1) u v1 := by
  obtain ⟨nt, tm, R, n, q, w, t, P, C, K, M, xL, ul, wy, oR, oS, oE, oD, gR, gP, gS, gE, gK, gD, yL, yA, yB, yD, yE, yF, yG, ct, mk, pR, pS, pE, pD, sS, sB, sE, sD, sK, rfl, rfl, hI⟩ := I
  have hI' := hI
  obtain ⟨h1, hG, h24, hn, hA, ht, hP, hM, hK, hN⟩ := hI'
  unfold wpX_addToken
  refine br_c (fun h => br_t h ⟨rfl, lc_rel hI⟩) (fun h => br_c (fun h' => ?_) (fun h' => br_f h (br_f h' ⟨rfl, lc_rel hI⟩)))
  refine br_c (fun h2 => ?_) (fun h2 => br_f h (br_t h' (br_f h2 ⟨rfl, lc_rel hI⟩)))
  have hn2 : n < 12 := (nI_ltI (a := n) (b := 12) (by omega) (by decide)).mp h2
  have hv : vp_in (nI n) 12 := vp_in_nI hn2 (by omega)
  refine ⟨hv, nm_e (nm_r (nI_1 n) ?_)⟩
  refine br_f h (br_t h' (br_t h2 ⟨hv, nm_e (nm_r (nI_1 n) ?_)⟩))
  exact ⟨rfl, lc_rel (M := 0) ⟨h1, hG, h24, by omega, hA, ht, Or.inl rfl, by omega, fun _ => rfl, fun j hj => by omega⟩⟩
theorem i_vc_clearInput {k : Nat} {u : SX} {v : SY} (I : i_Rel k u v) (hk : k + 5 ≤ 2562) : wpX_clearInput (fun u' => wpY_clearInput (fun v' => i_Rel (k + 5) u' v') v) u := by
  obtain ⟨nt, tm, R, n, q, w, t, P, C, K, M, xL, ul, wy, oR, oS, oE, oD, gR, gP, gS, gE, gK, gD, yL, yA, yB, yD, yE, yF, yG, ct, mk, pR, pS, pE, pD, sS, sB, sE, sD, sK, rfl, rfl, hI⟩ := I
  obtain ⟨h1, hG, h24, hn, hA, ht, hP, hM, hK, hN⟩ := hI
  exact lc_rel (k := k + 5) (n := 0) (w := w) (P := 0) (C := C) (K := -1) (M := 0) (ct := ct) (oR := oR) (oS := oS) (oE := oE) (oD := oD) (pR := pR) (pS := pS) (pE := pE) (pD := pD) ⟨h1, hG, h24, by omega, hA, ht, Or.inl rfl, by omega, fun _ => rfl, fun j hj => by omega⟩
theorem i_vc_inputLength {k : Nat} {u : SX} {v : SY} (I : i_Rel k u v) (hk : k + 5 ≤ 2562) : wpX_inputLength (fun r => wpY_inputLength (fun r' => r' = r ∧ i_Rel (k + 5) u v) v) u := by
  have J : i_Rel (k + 5) u v := i_up I
  obtain ⟨nt, tm, R, n, q, w, t, P, C, K, M, xL, ul, wy, oR, oS, oE, oD, gR, gP, gS, gE, gK, gD, yL, yA, yB, yD, yE, yF, yG, ct, mk, pR, pS, pE, pD, sS, sB, sE, sD, sK, rfl, rfl, hI⟩ := I
  exact ⟨rfl, J⟩
theorem i_vc_inputToken {k : Nat} {u : SX} {v : SY} (I : i_Rel k u v) (hk : k + 5 ≤ 2562) (v1 : Int32) : wpX_inputToken (fun r => wpY_inputToken (fun r' => r' = r ∧ i_Rel (k + 5) u v) v v1) u v1 := by
  have J : i_Rel (k + 5) u v := i_up I
  obtain ⟨nt, tm, R, n, q, w, t, P, C, K, M, xL, ul, wy, oR, oS, oE, oD, gR, gP, gS, gE, gK, gD, yL, yA, yB, yD, yE, yF, yG, ct, mk, pR, pS, pE, pD, sS, sB, sE, sD, sK, rfl, rfl, hI⟩ := I
  obtain ⟨h1, hG, h24, hn, hA, ht, hP, hM, hK, hN⟩ := hI
  unfold wpX_inputToken
  refine br_c (fun h => br_t h ⟨rfl, J⟩) (fun h => br_c (fun h' => ?_) (fun h' => br_f h (br_f h' ⟨rfl, J⟩)))
  obtain ⟨j, hj, rfl⟩ := nI_of h
  have hjn : j < n := (nI_ltI hj (by omega)).mp h'
  have hv : vp_in (nI j) 12 := vp_in_nI (by omega) (by omega)
  exact ⟨hv, br_f h (br_t h' ⟨hv, rfl, J⟩)⟩
end LCR3
end
section
section LCR4
theorem i_vc_parse {k : Nat} {u : SX} {v : SY} (I : i_Rel k u v) (hk : k + 5 ≤ 2562) : wpX_parse (fun r u' => wpY_parse (fun r' v' => r' = r ∧ i_Rel (k + 5) u' v') v) u := by
  obtain ⟨nt, tm, R, n, q, w, t, P, C, K, M, xL, ul, wy, oR, oS, oE, oD, gR, gP, gS, gE, gK, gD, yL, yA, yB, yD, yE, yF, yG, ct, mk, pR, pS, pE, pD, sS, sB, sE, sD, sK, rfl, rfl, hI⟩ := I
  obtain ⟨h1, hG, h24, hn, ⟨rk0, hA0⟩, ht, hP, hM, hK, hN⟩ := hI
  obtain ⟨rk, hA, hkr⟩ := lc_A_low hA0 (fun r hr => (hG.2.2 r hr).1) (fun r hr => lc_G_8 hG hr 1 (by omega))
  refine lx_parse hG h24 h1 hn hA hkr ht (fun ul' wy' t' ht' hS' => ?_)
  refine ly_parse hG h24 hn hA hkr (fun ct' t'' ht'' hc'' hS'' => ?_)
  have huq := lc_uq hG hA hS'' hS'
  have hct := lc_cf_ct hG.1 hn hc''
  have hct' : lc_ct ct' nt n t' := fun x s e a b c => by rw [hct x s e a b c, huq x s e a b c]
  have er : lc_rt t'' n = lc_rt t' n := by
    unfold lc_rt
    by_cases z : n = 0
    · rw [if_pos z, if_pos z]
    · rw [if_neg z, if_neg z]
      exact huq 0 0 n (by omega) (by omega) (Nat.le_refl _)
  rw [er]
  exact ⟨rfl, lc_rel (M := 0) ⟨h1, hG, h24, hn, ⟨rk, hA⟩, ht', Or.inr ⟨rfl, rfl, hS', hct'⟩, by omega, fun _ => rfl, fun j hj => by omega⟩⟩
end LCR4
end
section
section LCR5
theorem i_vc_count {k : Nat} {u : SX} {v : SY} (I : i_Rel k u v) (hk : k + 5 ≤ 2562) : wpX_count (fun r => wpY_count (fun r' => r' = r ∧ i_Rel (k + 5) u v) v) u := by
  have J : i_Rel (k + 5) u v := i_up I
  obtain ⟨nt, tm, R, n, q, w, t, P, C, K, M, xL, ul, wy, oR, oS, oE, oD, gR, gP, gS, gE, gK, gD, yL, yA, yB, yD, yE, yF, yG, ct, mk, pR, pS, pE, pD, sS, sB, sE, sD, sK, rfl, rfl, hI⟩ := I
  unfold wpX_count
  exact br_c (fun h => br_t h ⟨rfl, J⟩) (fun h => br_f h ⟨rfl, J⟩)
theorem i_vc_selectTree {k : Nat} {u : SX} {v : SY} (I : i_Rel k u v) (hk : k + 5 ≤ 2562) (v1 : Int32) : wpX_selectTree (fun r u' => wpY_selectTree (fun r' v' => r' = r ∧ i_Rel (k + 5) u' v') v v1) u v1 := by
  have J : i_Rel (k + 5) u v := i_up I
  obtain ⟨nt, tm, R, n, q, w, t, P, C, K, M, xL, ul, wy, oR, oS, oE, oD, gR, gP, gS, gE, gK, gD, yL, yA, yB, yD, yE, yF, yG, ct, mk, pR, pS, pE, pD, sS, sB, sE, sD, sK, rfl, rfl, hI⟩ := I
  obtain ⟨h1, hG, h24, hn, ⟨rk0, hA0⟩, ht, hP, hM, hK, hN⟩ := hI
  rcases hP with rfl | ⟨rfl, rfl, hS, hct⟩
  · unfold wpX_selectTree
    exact br_t rfl (br_t rfl ⟨rfl, J⟩)
  · obtain ⟨rk, hA, hkr⟩ := lc_A_low hA0 (fun r hr => (hG.2.2 r hr).1) (fun r hr => lc_G_8 hG hr 1 (by omega))
    have hc := lc_rt_le (n := n) ht
    by_cases z : lc_rt t n < 1000000
    · by_cases h0 : v1 < 0
      · unfold wpX_selectTree
        refine br_f (by decide) (br_f (nI_ge (b := 1000000) z (by decide)) (br_t h0 ?_))
        unfold wpY_selectTree
        refine br_f (by decide) (br_f (fun y => ?_) (br_t h0 ⟨rfl, J⟩))
        have := (nI_eq (a := lc_rt t n) (b := 1000000) (by omega) (by decide)).mp y
        omega
      · obtain ⟨j, hj, rfl⟩ := nI_of h0
        by_cases hjc : j < lc_rt t n
        · refine lx_select hG h24 h1 hn ht hS hA hkr rfl z hjc (fun xL' wy' oR' oS' oE' oD' gR' gP' gS' gE' gK' gD' hnd hlen => ?_)
          refine ly_select hG h24 h1 hn ht hct hS hA hkr rfl z hjc (fun yL' yA' yB' yD' yE' yF' yG' pR' pS' pE' pD' sS' sB' sE' sD' sK' hnd' => ?_)
          refine ⟨rfl, lc_rel ⟨h1, hG, h24, hn, ⟨rk, hA⟩, ht, Or.inr ⟨rfl, rfl, hS, hct⟩, hlen, fun y => absurd y (lc_m1 hj), fun i hi => ?_⟩⟩
          have e := List.getElem?_eq_getElem hi
          have a := hnd i _ e
          have b := hnd' i _ e
          exact ⟨a.1.trans b.1.symm, a.2.1.trans b.2.1.symm, a.2.2.1.trans b.2.2.1.symm, a.2.2.2.trans b.2.2.2.symm⟩
        · have hge : ¬ nI j < nI (lc_rt t n) := nI_nlt (by omega) hj
          unfold wpX_selectTree
          refine br_f (by decide) (br_f (nI_ge (b := 1000000) z (by decide)) (br_f h0 (br_f hge ?_)))
          unfold wpY_selectTree
          refine br_f (by decide) (br_f (fun y => ?_) (br_f h0 (br_f hge ⟨rfl, J⟩)))
          have := (nI_eq (a := lc_rt t n) (b := 1000000) (by omega) (by decide)).mp y
          omega
    · have e : lc_rt t n = 1000000 := by omega
      unfold wpX_selectTree
      refine br_f (by decide) (br_t (by rw [e]; decide) ?_)
      unfold wpY_selectTree
      exact br_f (by decide) (br_t (by rw [e]; rfl) ⟨rfl, J⟩)
end LCR5
end
section
section LCR6
theorem i_vc_selectedRank {k : Nat} {u : SX} {v : SY} (I : i_Rel k u v) (hk : k + 5 ≤ 2562) : wpX_selectedRank (fun r => wpY_selectedRank (fun r' => r' = r ∧ i_Rel (k + 5) u v) v) u := by
  have J : i_Rel (k + 5) u v := i_up I
  obtain ⟨nt, tm, R, n, q, w, t, P, C, K, M, xL, ul, wy, oR, oS, oE, oD, gR, gP, gS, gE, gK, gD, yL, yA, yB, yD, yE, yF, yG, ct, mk, pR, pS, pE, pD, sS, sB, sE, sD, sK, rfl, rfl, hI⟩ := I
  exact ⟨rfl, J⟩
theorem lx_isNode {nt tm R n : Nat} {q : Nat → Nat → Nat} {w : Nat → Int32} {t : Nat → Nat} {xP xC xK xL : Int32} {M : Nat} {ul wy oR oS oE oD gR gP gS gE gK gD : Nat → Int32} {post : Int32 → Prop} {x : Int32} (hM : M ≤ 196) (hf : (¬ x < 0 → ¬ x < nI M) → post 0) (ht : ∀ j, j < M → x = nI j → post 1) : wpX_isNode post ((nI nt), (nI tm), (nI R), (nI n), xP, xC, xK, (nI M), xL, (lc_rc q), w, ul, (lc_tr t), wy, oR, oS, oE, oD, gR, gP, gS, gE, gK, gD) x := by
  unfold wpX_isNode
  refine br_c (fun h => hf (fun z => absurd h z)) (fun h => br_c (fun h' => hf (fun _ => Int32.not_lt.mpr h')) (fun h' => ?_))
  obtain ⟨j, hj, rfl⟩ := nI_of h
  exact ht j ((nI_ltI hj (by omega)).mp (Int32.not_le.mp h')) rfl
theorem i_vc_nodeRule {k : Nat} {u : SX} {v : SY} (I : i_Rel k u v) (hk : k + 5 ≤ 2562) (v1 : Int32) : wpX_nodeRule (fun r => wpY_nodeRule (fun r' => r' = r ∧ i_Rel (k + 5) u v) v v1) u v1 := by
  have J : i_Rel (k + 5) u v := i_up I
  obtain ⟨nt, tm, R, n, q, w, t, P, C, K, M, xL, ul, wy, oR, oS, oE, oD, gR, gP, gS, gE, gK, gD, yL, yA, yB, yD, yE, yF, yG, ct, mk, pR, pS, pE, pD, sS, sB, sE, sD, sK, rfl, rfl, hI⟩ := I
  obtain ⟨-, -, -, -, -, -, -, hM, hK, hN⟩ := hI
  unfold wpX_nodeRule
  refine lx_isNode hM (fun h => ?_) (fun j hj e => ?_)
  · refine br_t rfl ?_
    unfold wpY_nodeRule
    refine br_c (fun _ => ⟨rfl, J⟩) (fun _ => br_c (fun _ => ⟨rfl, J⟩) (fun h1 => br_c (fun h2 => ?_) (fun _ => ⟨rfl, J⟩)))
    exact absurd h2 (h h1)
  · subst e
    refine br_f (by decide) ⟨vp_in_nI (by omega) (by omega), ?_⟩
    rw [nI_clamp (by omega), (hN j hj).1]
    unfold wpY_nodeRule
    refine br_f (fun z => ?_) (br_f (nI_pos (by omega)) (br_t (nI_lt hj (by omega)) ⟨vp_in_nI (by omega) (by omega), ?_⟩))
    · have := hK z
      omega
    · rw [nI_clamp (by omega)]
      exact ⟨rfl, J⟩
theorem i_vc_nodeStart {k : Nat} {u : SX} {v : SY} (I : i_Rel k u v) (hk : k + 5 ≤ 2562) (v1 : Int32) : wpX_nodeStart (fun r => wpY_nodeStart (fun r' => r' = r ∧ i_Rel (k + 5) u v) v v1) u v1 := by
  have J : i_Rel (k + 5) u v := i_up I
  obtain ⟨nt, tm, R, n, q, w, t, P, C, K, M, xL, ul, wy, oR, oS, oE, oD, gR, gP, gS, gE, gK, gD, yL, yA, yB, yD, yE, yF, yG, ct, mk, pR, pS, pE, pD, sS, sB, sE, sD, sK, rfl, rfl, hI⟩ := I
  obtain ⟨-, -, -, -, -, -, -, hM, hK, hN⟩ := hI
  unfold wpX_nodeStart
  refine lx_isNode hM (fun h => ?_) (fun j hj e => ?_)
  · refine br_t rfl ?_
    unfold wpY_nodeStart
    refine br_c (fun _ => ⟨rfl, J⟩) (fun _ => br_c (fun _ => ⟨rfl, J⟩) (fun h1 => br_c (fun h2 => ?_) (fun _ => ⟨rfl, J⟩)))
    exact absurd h2 (h h1)
  · subst e
    refine br_f (by decide) ⟨vp_in_nI (by omega) (by omega), ?_⟩
    rw [nI_clamp (by omega), (hN j hj).2.1]
    unfold wpY_nodeStart
    refine br_f (fun z => ?_) (br_f (nI_pos (by omega)) (br_t (nI_lt hj (by omega)) ⟨vp_in_nI (by omega) (by omega), ?_⟩))
    · have := hK z
      omega
    · rw [nI_clamp (by omega)]
      exact ⟨rfl, J⟩
theorem i_vc_nodeEnd {k : Nat} {u : SX} {v : SY} (I : i_Rel k u v) (hk : k + 5 ≤ 2562) (v1 : Int32) : wpX_nodeEnd (fun r => wpY_nodeEnd (fun r' => r' = r ∧ i_Rel (k + 5) u v) v v1) u v1 := by
  have J : i_Rel (k + 5) u v := i_up I
  obtain ⟨nt, tm, R, n, q, w, t, P, C, K, M, xL, ul, wy, oR, oS, oE, oD, gR, gP, gS, gE, gK, gD, yL, yA, yB, yD, yE, yF, yG, ct, mk, pR, pS, pE, pD, sS, sB, sE, sD, sK, rfl, rfl, hI⟩ := I
  obtain ⟨-, -, -, -, -, -, -, hM, hK, hN⟩ := hI
  unfold wpX_nodeEnd
  refine lx_isNode hM (fun h => ?_) (fun j hj e => ?_)
  · refine br_t rfl ?_
    unfold wpY_nodeEnd
    refine br_c (fun _ => ⟨rfl, J⟩) (fun _ => br_c (fun _ => ⟨rfl, J⟩) (fun h1 => br_c (fun h2 => ?_) (fun _ => ⟨rfl, J⟩)))
    exact absurd h2 (h h1)
  · subst e
    refine br_f (by decide) ⟨vp_in_nI (by omega) (by omega), ?_⟩
    rw [nI_clamp (by omega), (hN j hj).2.2.1]
    unfold wpY_nodeEnd
    refine br_f (fun z => ?_) (br_f (nI_pos (by omega)) (br_t (nI_lt hj (by omega)) ⟨vp_in_nI (by omega) (by omega), ?_⟩))
    · have := hK z
      omega
    · rw [nI_clamp (by omega)]
      exact ⟨rfl, J⟩
theorem i_vc_nodeDepth {k : Nat} {u : SX} {v : SY} (I : i_Rel k u v) (hk : k + 5 ≤ 2562) (v1 : Int32) : wpX_nodeDepth (fun r => wpY_nodeDepth (fun r' => r' = r ∧ i_Rel (k + 5) u v) v v1) u v1 := by
  have J : i_Rel (k + 5) u v := i_up I
  obtain ⟨nt, tm, R, n, q, w, t, P, C, K, M, xL, ul, wy, oR, oS, oE, oD, gR, gP, gS, gE, gK, gD, yL, yA, yB, yD, yE, yF, yG, ct, mk, pR, pS, pE, pD, sS, sB, sE, sD, sK, rfl, rfl, hI⟩ := I
  obtain ⟨-, -, -, -, -, -, -, hM, hK, hN⟩ := hI
  unfold wpX_nodeDepth
  refine lx_isNode hM (fun h => ?_) (fun j hj e => ?_)
  · refine br_t rfl ?_
    unfold wpY_nodeDepth
    refine br_c (fun _ => ⟨rfl, J⟩) (fun _ => br_c (fun _ => ⟨rfl, J⟩) (fun h1 => br_c (fun h2 => ?_) (fun _ => ⟨rfl, J⟩)))
    exact absurd h2 (h h1)
  · subst e
    refine br_f (by decide) ⟨vp_in_nI (by omega) (by omega), ?_⟩
    rw [nI_clamp (by omega), (hN j hj).2.2.2]
    unfold wpY_nodeDepth
    refine br_f (fun z => ?_) (br_f (nI_pos (by omega)) (br_t (nI_lt hj (by omega)) ⟨vp_in_nI (by omega) (by omega), ?_⟩))
    · have := hK z
      omega
    · rw [nI_clamp (by omega)]
      exact ⟨rfl, J⟩
end LCR6
end
