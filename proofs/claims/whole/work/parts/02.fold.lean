/-! the fold over all ways: a mixed-radix counter against nested loops -/
def ov_u {α : Type} (f : Nat → α) (k : Nat) (x : α) : Nat → α := fun j => if j = k then x else f j
theorem ov_us {α : Type} {f : Nat → α} {k : Nat} {x : α} : ov_u f k x k = x := if_pos rfl
theorem ov_un {α : Type} {f : Nat → α} {k j : Nat} {x : α} (h : j ≠ k) : ov_u f k x j = f j := if_neg h
def ov_fo {T : Type} (g : Nat → T → T) : Nat → T → T
  | 0, t => t
  | n + 1, t => g n (ov_fo g n t)
theorem ov_fo_add {T : Type} (g : Nat → T → T) (m : Nat) (t : T) : ∀ n, ov_fo g (m + n) t = ov_fo (fun i => g (m + i)) n (ov_fo g m t) := by
  intro n
  induction n with
  | zero => rfl
  | succ n ih =>
    show g (m + n) (ov_fo g (m + n) t) = g (m + n) (ov_fo (fun i => g (m + i)) n (ov_fo g m t))
    rw [ih]
theorem ov_fo_congr {T : Type} {g g' : Nat → T → T} : ∀ n, (∀ i, i < n → ∀ t, g i t = g' i t) → ∀ t, ov_fo g n t = ov_fo g' n t := by
  intro n
  induction n with
  | zero => exact fun _ _ => rfl
  | succ n ih =>
    intro h t
    show g n (ov_fo g n t) = g' n (ov_fo g' n t)
    rw [ih (fun i hi => h i (by omega)) t, h n (by omega)]
theorem ov_fo_id {T : Type} {g : Nat → T → T} : ∀ n, (∀ i, i < n → ∀ t, g i t = t) → ∀ t, ov_fo g n t = t := by
  intro n
  induction n with
  | zero => exact fun _ _ => rfl
  | succ n ih =>
    intro h t
    show g n (ov_fo g n t) = t
    rw [ih (fun i hi => h i (by omega)) t, h n (by omega)]
theorem ov_fo_mul {T : Type} (g : Nat → T → T) (m : Nat) (t : T) : ∀ n, ov_fo g (m * n) t = ov_fo (fun i => ov_fo (fun j => g (m * i + j)) m) n t := by
  intro n
  induction n with
  | zero => rfl
  | succ n ih =>
    rw [Nat.mul_succ, ov_fo_add, ih]
    rfl
def ov_P (b : Nat → Nat) : Nat → Nat
  | 0 => 1
  | k + 1 => ov_P b k * b k
def ov_dg (b : Nat → Nat) (w j : Nat) : Nat := w / ov_P b j % b j
def ov_rd (b : Nat → Nat) (k w : Nat) (d : Nat → Nat) : Nat → Nat := fun j => if j < k then ov_dg b w j else d j
def ov_ne {T : Type} (st : (Nat → Nat) → T → T) (b : Nat → Nat) : Nat → (Nat → Nat) → T → T
  | 0, d, t => st d t
  | k + 1, d, t => ov_fo (fun i => ov_ne st b k (ov_u d k i)) (b k) t
theorem ov_P_dvd (b : Nat → Nat) (q : Nat) : ∀ r, ov_P b q ∣ ov_P b (q + r) := by
  intro r
  induction r with
  | zero => exact Nat.dvd_refl _
  | succ r ih => exact Nat.dvd_trans ih (Nat.dvd_mul_right _ _)
theorem ov_P_dvd2 {b : Nat → Nat} {q k : Nat} (h : q ≤ k) : ov_P b q ∣ ov_P b k := by
  obtain ⟨r, rfl⟩ : ∃ r, k = q + r := ⟨k - q, by omega⟩
  exact ov_P_dvd b q r
theorem ov_P_pos {b : Nat → Nat} {q k : Nat} (h : q ≤ k) (hk : 0 < ov_P b k) : 0 < ov_P b q := by
  obtain ⟨c, hc⟩ := ov_P_dvd2 (b := b) h
  rcases Nat.eq_zero_or_pos (ov_P b q) with z | z
  · rw [hc, z, Nat.zero_mul] at hk; omega
  · exact z
theorem ov_b_pos {b : Nat → Nat} {q k : Nat} (h : q < k) (hk : 0 < ov_P b k) : 0 < b q := by
  have h1 : 0 < ov_P b (q + 1) := ov_P_pos (by omega) hk
  rcases Nat.eq_zero_or_pos (b q) with z | z
  · have : ov_P b (q + 1) = ov_P b q * b q := rfl
    rw [this, z, Nat.mul_zero] at h1; omega
  · exact z
theorem ov_P_le {b : Nat → Nat} (h : ∀ j, b j ≤ 4) : ∀ k, ov_P b k ≤ 4 ^ k := by
  intro k
  induction k with
  | zero => exact Nat.le_refl _
  | succ k ih =>
    show ov_P b k * b k ≤ 4 ^ k * 4
    exact Nat.mul_le_mul ih (h k)
theorem ov_dg_lt {b : Nat → Nat} {w j k : Nat} (hw : w < ov_P b k) (hj : j < k) : ov_dg b w j < b j :=
  Nat.mod_lt _ (ov_b_pos hj (by omega))
theorem ov_dg_hi {b : Nat → Nat} {k i j q : Nat} (hj : j < ov_P b k) (hq : q < k) : ov_dg b (ov_P b k * i + j) q = ov_dg b j q := by
  have hp : 0 < ov_P b q := ov_P_pos (Nat.le_of_lt hq) (show 0 < ov_P b k by omega)
  obtain ⟨c, hc⟩ := ov_P_dvd2 (b := b) (show q + 1 ≤ k from hq)
  have hc' : ov_P b k = ov_P b q * (b q * c) := by rw [hc, show ov_P b (q + 1) = ov_P b q * b q from rfl, Nat.mul_assoc]
  unfold ov_dg
  rw [hc', Nat.mul_assoc, Nat.mul_add_div hp, Nat.mul_assoc, Nat.mul_add_mod]
theorem ov_A0 {b : Nat → Nat} {k i j : Nat} {d : Nat → Nat} (hj : j < ov_P b k) (hi : i < b k) : ov_rd b (k + 1) (ov_P b k * i + j) d = ov_rd b k j (ov_u d k i) := by
  funext q
  unfold ov_rd
  by_cases h1 : q < k
  · rw [if_pos h1, if_pos (by omega), ov_dg_hi hj h1]
  · rw [if_neg h1]
    by_cases h2 : q = k
    · subst h2
      rw [if_pos (by omega), ov_us]
      unfold ov_dg
      rw [Nat.mul_add_div (by omega), Nat.div_eq_of_lt hj, Nat.add_zero, Nat.mod_eq_of_lt hi]
    · rw [if_neg (by omega), ov_un h2]
theorem ov_A1 {T : Type} (st : (Nat → Nat) → T → T) (b : Nat → Nat) : ∀ k d t, ov_fo (fun w => st (ov_rd b k w d)) (ov_P b k) t = ov_ne st b k d t := by
  intro k
  induction k with
  | zero =>
    intro d t
    have h : ov_rd b 0 0 d = d := by funext q; exact if_neg (by omega)
    show st (ov_rd b 0 0 d) t = st d t
    rw [h]
  | succ k ih =>
    intro d t
    show ov_fo _ (ov_P b k * b k) t = ov_fo (fun i => ov_ne st b k (ov_u d k i)) (b k) t
    rw [ov_fo_mul]
    refine ov_fo_congr _ (fun i hi t => ?_) t
    rw [← ih]
    refine ov_fo_congr _ (fun j hj t => ?_) t
    rw [ov_A0 hj hi]
theorem ov_ne_id {T : Type} (st : (Nat → Nat) → T → T) (b : Nat → Nat) : ∀ k d, (∀ d', (∀ j, k ≤ j → d' j = d j) → ∀ t, st d' t = t) → ∀ t, ov_ne st b k d t = t := by
  intro k
  induction k with
  | zero => exact fun d h t => h d (fun _ _ => rfl) t
  | succ k ih =>
    intro d h t
    show ov_fo (fun i => ov_ne st b k (ov_u d k i)) (b k) t = t
    refine ov_fo_id _ (fun i hi t => ih _ (fun d' hd' t => h d' (fun j hj => ?_) t) t) t
    rw [hd' j (by omega), ov_un (by omega)]
theorem ov_ne_eq {T : Type} (st : (Nat → Nat) → T → T) (bX bY : Nat → Nat) (hle : ∀ j, bX j ≤ bY j) (hb : ∀ j d, bX j ≤ d j → d j < bY j → ∀ t, st d t = t) : ∀ k d t, ov_ne st bX k d t = ov_ne st bY k d t := by
  intro k
  induction k with
  | zero => exact fun _ _ => rfl
  | succ k ih =>
    intro d t
    show ov_fo (fun i => ov_ne st bX k (ov_u d k i)) (bX k) t = ov_fo (fun i => ov_ne st bY k (ov_u d k i)) (bY k) t
    obtain ⟨c, hc⟩ : ∃ c, bY k = bX k + c := ⟨bY k - bX k, by have := hle k; omega⟩
    rw [hc, ov_fo_add, ov_fo_congr _ (fun i _ t => ih (ov_u d k i) t) t]
    refine (ov_fo_id _ (fun i hi t => ?_) _).symm
    refine ov_ne_id st bY k _ (fun d' hd' t => ?_) t
    have h1 := hd' k (Nat.le_refl k)
    rw [ov_us] at h1
    exact hb k d' (by omega) (by omega) t
theorem ov_main {T : Type} (st : (Nat → Nat) → T → T) (bX bY : Nat → Nat) (hle : ∀ j, bX j ≤ bY j) (hb : ∀ j d, bX j ≤ d j → d j < bY j → ∀ t, st d t = t) (k : Nat) (d : Nat → Nat) (t : T) : ov_fo (fun w => st (ov_rd bX k w d)) (ov_P bX k) t = ov_fo (fun w => st (ov_rd bY k w d)) (ov_P bY k) t := by
  rw [ov_A1, ov_A1, ov_ne_eq st bX bY hle hb]
/-! one step of the counter -/
theorem ov_nxv {p w : Nat} (hp : 0 < p) (h : p ∣ w + 1) : ∃ v, w / p = v ∧ (w + 1) / p = v + 1 ∧ w + 1 = p * (v + 1) := by
  obtain ⟨c, hc⟩ := h
  obtain ⟨v, rfl⟩ : ∃ v, c = v + 1 := ⟨c - 1, by rcases Nat.eq_zero_or_pos c with z | z
                                                 · rw [z] at hc; omega
                                                 · omega⟩
  refine ⟨v, ?_, ?_, hc⟩
  · have h1 : w = p * v + (p - 1) := by rw [Nat.mul_succ] at hc; omega
    rw [h1, Nat.mul_add_div hp, Nat.div_eq_of_lt (by omega), Nat.add_zero]
  · rw [hc, Nat.mul_div_cancel_left _ hp]
theorem ov_nx0 {b : Nat → Nat} {x j : Nat} (hp : 0 < ov_P b j) (h : ov_P b (j + 1) ∣ x) : ov_dg b x j = 0 := by
  obtain ⟨c, rfl⟩ := h
  unfold ov_dg
  rw [show ov_P b (j + 1) = ov_P b j * b j from rfl, Nat.mul_assoc, Nat.mul_div_cancel_left _ hp, Nat.mul_mod_right]
theorem ov_nx1 {b : Nat → Nat} {w i : Nat} (hp : 0 < ov_P b i) (hb : 0 < b i) (h : ov_P b i ∣ w + 1) (hc : b i ≤ ov_dg b w i + 1) : ov_P b (i + 1) ∣ w + 1 := by
  obtain ⟨v, h1, h2, h3⟩ := ov_nxv hp h
  unfold ov_dg at hc
  rw [h1] at hc
  have h4 : v % b i < b i := Nat.mod_lt _ hb
  have h5 := Nat.div_add_mod v (b i)
  refine ⟨v / b i + 1, ?_⟩
  rw [h3, show ov_P b (i + 1) = ov_P b i * b i from rfl, Nat.mul_assoc, Nat.mul_succ (b i)]
  exact congrArg (ov_P b i * ·) (by omega)
theorem ov_nx2 {b : Nat → Nat} {w i : Nat} (hp : 0 < ov_P b i) (h : ov_P b i ∣ w + 1) (hc : ov_dg b w i + 1 < b i) : ov_dg b (w + 1) i = ov_dg b w i + 1 := by
  obtain ⟨v, h1, h2, h3⟩ := ov_nxv hp h
  unfold ov_dg at hc ⊢
  rw [h1] at hc
  rw [h1, h2]
  have h5 := Nat.div_add_mod v (b i)
  have h6 : v + 1 = b i * (v / b i) + (v % b i + 1) := by omega
  rw [h6, Nat.mul_add_mod, Nat.mod_eq_of_lt hc]
theorem ov_nx3 {b : Nat → Nat} {w i j : Nat} (hp : 0 < ov_P b i) (h : ov_P b i ∣ w + 1) (hc : ov_dg b w i + 1 < b i) (hj : i < j) : ov_dg b (w + 1) j = ov_dg b w j := by
  obtain ⟨v, h1, h2, h3⟩ := ov_nxv hp h
  obtain ⟨c, hP⟩ := ov_P_dvd2 (b := b) (show i + 1 ≤ j from hj)
  unfold ov_dg at hc ⊢
  rw [h1] at hc
  have h5 := Nat.div_add_mod v (b i)
  have h6 : v + 1 = b i * (v / b i) + (v % b i + 1) := by omega
  have h7 : (v + 1) / b i = v / b i := by
    rw [h6, Nat.mul_add_div (by omega), Nat.div_eq_of_lt hc, Nat.add_zero]
  have q : ∀ x : Nat, x / (ov_P b i * (b i * c)) = x / ov_P b i / b i / c := fun x => by
    rw [← Nat.div_div_eq_div_mul, ← Nat.div_div_eq_div_mul]
  rw [hP, show ov_P b (i + 1) = ov_P b i * b i from rfl, Nat.mul_assoc, q, q, h1, h2, h7]
