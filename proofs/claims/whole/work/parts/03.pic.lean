/-! the pure picture: what both sides hold, the parts of an expression, the cost of a way to choose -/
abbrev ov_E : Type := Nat × (Nat → Option Nat) × (Nat → Nat) × (Nat → Nat) × (Nat → Nat) × (Nat → Nat) × (Nat → Nat) × (Nat → Nat) × (Nat → Nat) × (Nat → Nat) × (Nat → Nat)
def ov_nc (e : ov_E) : Nat := e.1
def ov_cv (e : ov_E) : Nat → Option Nat := e.2.1
def ov_st (e : ov_E) : Nat → Nat := e.2.2.1
def ov_sc (e : ov_E) : Nat → Nat := e.2.2.2.1
def ov_hd (e : ov_E) : Nat → Nat := e.2.2.2.2.1
def ov_vs (e : ov_E) : Nat → Nat := e.2.2.2.2.2.1
def ov_lt (e : ov_E) : Nat → Nat := e.2.2.2.2.2.2.1
def ov_kd (e : ov_E) : Nat → Nat := e.2.2.2.2.2.2.2.1
def ov_ct (e : ov_E) : Nat → Nat := e.2.2.2.2.2.2.2.2.1
def ov_lf (e : ov_E) : Nat → Nat := e.2.2.2.2.2.2.2.2.2.1
def ov_rt (e : ov_E) : Nat → Nat := e.2.2.2.2.2.2.2.2.2.2
/-- counting -/
def ov_cn (p : Nat → Bool) : Nat → Nat
  | 0 => 0
  | k + 1 => ov_cn p k + (if p k = true then 1 else 0)
theorem ov_cn_le {p q : Nat → Bool} : ∀ k, (∀ j, j < k → p j = true → q j = true) → ov_cn p k ≤ ov_cn q k := by
  intro k
  induction k with
  | zero => exact fun _ => Nat.le_refl _
  | succ k ih =>
    intro h
    have h1 := ih (fun j hj => h j (by omega))
    show ov_cn p k + (if p k = true then 1 else 0) ≤ ov_cn q k + (if q k = true then 1 else 0)
    by_cases hp : p k = true
    · rw [if_pos hp, if_pos (h k (by omega) hp)]; omega
    · rw [if_neg hp]; omega
theorem ov_cn_lt {p q : Nat → Bool} {a : Nat} (hp : p a = false) (hq : q a = true) : ∀ k, a < k → (∀ j, j < k → p j = true → q j = true) → ov_cn p k + 1 ≤ ov_cn q k := by
  intro k
  induction k with
  | zero => intro h; omega
  | succ k ih =>
    intro ha h
    show ov_cn p k + (if p k = true then 1 else 0) + 1 ≤ ov_cn q k + (if q k = true then 1 else 0)
    by_cases hk : a = k
    · subst hk
      have h1 := ov_cn_le (p := p) (q := q) a (fun j hj => h j (by omega))
      rw [if_pos hq, if_neg (by rw [hp]; exact Bool.false_ne_true)]; omega
    · have h1 := ih (by omega) (fun j hj => h j (by omega))
      by_cases hp : p k = true
      · rw [if_pos hp, if_pos (h k (by omega) hp)]; omega
      · rw [if_neg hp]; omega
theorem ov_cn_u {f : Nat → Bool} {a : Nat} : ∀ k, ov_cn (ov_u f a true) k ≤ ov_cn f k + (if a < k then 1 else 0) := by
  intro k
  induction k with
  | zero => exact Nat.zero_le _
  | succ k ih =>
    show ov_cn (ov_u f a true) k + (if ov_u f a true k = true then 1 else 0) ≤ ov_cn f k + (if f k = true then 1 else 0) + (if a < k + 1 then 1 else 0)
    by_cases hk : k = a
    · subst hk
      rw [if_neg (by omega)] at ih
      rw [if_pos ov_us, if_pos (show k < k + 1 by omega)]; omega
    · rw [ov_un hk]
      by_cases h1 : a < k
      · rw [if_pos h1] at ih; rw [if_pos (show a < k + 1 by omega)]; omega
      · rw [if_neg h1] at ih; omega
theorem ov_cn_u1 {f : Nat → Bool} {a : Nat} (k : Nat) : ov_cn (ov_u f a true) k ≤ ov_cn f k + 1 := by
  have h := ov_cn_u (f := f) (a := a) k
  by_cases h1 : a < k
  · rw [if_pos h1] at h; exact h
  · rw [if_neg h1] at h; omega
theorem ov_cn_0 {p : Nat → Bool} {m : Nat} : ∀ r, (∀ j, m ≤ j → p j = false) → ov_cn p (m + r) = ov_cn p m := by
  intro r
  induction r with
  | zero => exact fun _ => rfl
  | succ r ih =>
    intro h
    show ov_cn p (m + r) + (if p (m + r) = true then 1 else 0) = _
    rw [ih h, h (m + r) (by omega), if_neg Bool.false_ne_true, Nat.add_zero]
theorem ov_cn_mono {p : Nat → Bool} {m : Nat} : ∀ r, ov_cn p m ≤ ov_cn p (m + r) := by
  intro r
  induction r with
  | zero => exact Nat.le_refl _
  | succ r ih => exact Nat.le_trans ih (Nat.le_add_right _ _)
theorem ov_cn_k {p : Nat → Bool} : ∀ k, ov_cn p k ≤ k := by
  intro k
  induction k with
  | zero => exact Nat.le_refl _
  | succ k ih =>
    show ov_cn p k + (if p k = true then 1 else 0) ≤ k + 1
    by_cases h : p k = true
    · rw [if_pos h]; omega
    · rw [if_neg h]; omega
def ov_ap (e : ov_E) : Nat → Bool := fun j => decide (ov_kd e j = 3)
def ov_ac (e : ov_E) : Nat := ov_cn (ov_ap e) (ov_nc e)
def ov_N (e : ov_E) (n : Nat) : Prop := ov_kd e n ≤ 3 ∧ (ov_kd e n = 1 → ov_ct e n < 2) ∧ (ov_kd e n = 2 → ov_ct e n < 3) ∧ (ov_kd e n = 3 → ov_ct e n < 3 ∧ ov_lf e n < n ∧ ov_rt e n < n)
/-- what always holds -/
def ov_W (e : ov_E) : Prop := ov_nc e ≤ 12 ∧ (∀ i c, ov_cv e i = some c → c ≤ 9) ∧ (∀ i, ov_st e i < 27) ∧ (∀ i, ov_sc e i ≤ 9) ∧ (∀ i, ov_hd e i ≤ 4) ∧ (∀ i, ov_vs e i < 8) ∧ (∀ i, ov_lt e i ≤ 9) ∧ (∀ i, ov_ct e i < 8) ∧ (∀ n, n < ov_nc e → ov_N e n) ∧ ov_ac e ≤ 3
/-- the parts -/
def ov_mk (e : ov_E) : Nat → (Nat → Bool) → (Nat → Bool)
  | 0, f => f
  | n + 1, f => ov_mk e n (if f n = true ∧ ov_kd e n = 3 then ov_u (ov_u f (ov_lf e n) true) (ov_rt e n) true else f)
def ov_pb (e : ov_E) (node : Nat) : Nat → Bool := ov_mk e (node + 1) (fun j => decide (j = node))
def ov_pa (e : ov_E) (f : Nat → Bool) (n : Nat) : Nat → Bool := fun j => f j && decide (n ≤ j) && decide (ov_kd e j = 3)
def ov_pi (e : ov_E) (node n : Nat) (f : Nat → Bool) : Prop :=
  (∀ j, f j = true → j ≤ node) ∧ f node = true ∧ (∀ m, n ≤ m → f m = true → ov_kd e m = 3 → f (ov_lf e m) = true ∧ f (ov_rt e m) = true) ∧ ov_cn f 12 ≤ 1 + 2 * ov_cn (ov_pa e f n) 12
theorem ov_ut {f : Nat → Bool} {a j : Nat} (h : f j = true) : ov_u f a true j = true := by
  by_cases hj : j = a
  · subst hj; exact ov_us
  · rw [ov_un hj]; exact h
theorem ov_mk_pi {e : ov_E} {node : Nat} (hw : ov_W e) (hn : node < ov_nc e) : ∀ n f, n ≤ node + 1 → ov_pi e node n f → ov_pi e node 0 (ov_mk e n f) := by
  intro n
  induction n with
  | zero => exact fun f _ h => h
  | succ n ih =>
    intro f hle h
    obtain ⟨h1, h2, h3, h4⟩ := h
    have hN := hw.2.2.2.2.2.2.2.2.1 n (by omega)
    have h12 := hw.1
    refine ih _ (by omega) ?_
    by_cases hc : f n = true ∧ ov_kd e n = 3
    · rw [if_pos hc]
      obtain ⟨_, hl, hr⟩ := hN.2.2.2 hc.2
      refine ⟨fun j hj => ?_, ov_ut (ov_ut h2), fun m hm hf hk => ?_, ?_⟩
      · by_cases a1 : j = ov_rt e n
        · omega
        · rw [ov_un a1] at hj
          by_cases a2 : j = ov_lf e n
          · omega
          · rw [ov_un a2] at hj; exact h1 j hj
      · by_cases a3 : m = n
        · subst a3
          exact ⟨ov_ut ov_us, ov_us⟩
        · rw [ov_un (by omega), ov_un (by omega)] at hf
          obtain ⟨b1, b2⟩ := h3 m (by omega) hf hk
          exact ⟨ov_ut (ov_ut b1), ov_ut (ov_ut b2)⟩
      · have c1 := ov_cn_u1 (f := ov_u f (ov_lf e n) true) (a := ov_rt e n) 12
        have c2 := ov_cn_u1 (f := f) (a := ov_lf e n) 12
        have c3 := ov_cn_lt (p := ov_pa e f (n + 1)) (q := ov_pa e (ov_u (ov_u f (ov_lf e n) true) (ov_rt e n) true) n) (a := n)
          (by unfold ov_pa; rw [decide_eq_false (show ¬ n + 1 ≤ n by omega), Bool.and_false, Bool.false_and])
          (by unfold ov_pa; rw [ov_ut (ov_ut hc.1), decide_eq_true (Nat.le_refl n), decide_eq_true hc.2]; rfl) 12 (by omega)
          (fun j _ hj => by
            unfold ov_pa at hj ⊢
            rw [Bool.and_eq_true, Bool.and_eq_true] at hj
            rw [ov_ut (ov_ut hj.1.1), hj.2, decide_eq_true (show n ≤ j by have := of_decide_eq_true hj.1.2; omega)]; rfl)
        omega
    · rw [if_neg hc]
      refine ⟨h1, h2, fun m hm hf hk => ?_, ?_⟩
      · by_cases a3 : m = n
        · subst a3; exact absurd ⟨hf, hk⟩ hc
        · exact h3 m (by omega) hf hk
      · have c3 := ov_cn_le (p := ov_pa e f (n + 1)) (q := ov_pa e f n) 12 (fun j _ hj => by
            unfold ov_pa at hj ⊢
            rw [Bool.and_eq_true, Bool.and_eq_true] at hj
            rw [hj.1.1, hj.2, decide_eq_true (show n ≤ j by have := of_decide_eq_true hj.1.2; omega)]; rfl)
        omega
theorem ov_cn_1 (a : Nat) : ∀ k, ov_cn (fun j => decide (j = a)) k ≤ if a < k then 1 else 0 := by
  intro k
  induction k with
  | zero => exact Nat.le_refl _
  | succ k ih =>
    show ov_cn (fun j => decide (j = a)) k + (if decide (k = a) = true then 1 else 0) ≤ _
    by_cases h : k = a
    · subst h
      rw [if_neg (by omega)] at ih
      rw [if_pos (decide_eq_true rfl), if_pos (by omega)]; omega
    · rw [decide_eq_false h, if_neg Bool.false_ne_true]
      by_cases h1 : a < k
      · rw [if_pos h1] at ih; rw [if_pos (by omega)]; omega
      · rw [if_neg h1] at ih; omega
theorem ov_pb_pi {e : ov_E} {node : Nat} (hw : ov_W e) (hn : node < ov_nc e) : ov_pi e node 0 (ov_pb e node) := by
  have h12 := hw.1
  refine ov_mk_pi hw hn _ _ (Nat.le_refl _) ⟨fun j hj => ?_, decide_eq_true rfl, fun m hm hf _ => ?_, ?_⟩
  · have := of_decide_eq_true hj; omega
  · have := of_decide_eq_true hf; omega
  · have := ov_cn_1 node 12
    rw [if_pos (by omega)] at this
    omega
