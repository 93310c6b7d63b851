section
theorem pk_us {f : Nat → Int32} {k : Nat} {x : Int32} : upd f k x k = x := if_pos rfl
theorem pk_un {f : Nat → Int32} {k j : Nat} {x : Int32} (h : j ≠ k) : upd f k x j = f j := if_neg h
theorem pk_sub {a b : Nat} (h : b ≤ a) : nI a - nI b = nI (a - b) := by
  obtain ⟨c, rfl⟩ : ∃ c, a = c + b := ⟨a - b, by omega⟩
  rw [← nI_add, Int32.add_sub_cancel, Nat.add_sub_cancel]
theorem pk_m1 (n : Nat) : nI (n + 1) + (-1) = nI n := by
  rw [← nI_1, Int32.add_assoc, show (1 : Int32) + (-1) = 0 from rfl, Int32.add_zero]
theorem pk_mul (a b : Nat) : nI a * nI b = nI (a * b) := (Int32.ofNat_mul a b).symm
theorem pk_div {a d : Nat} (ha : a < 2 ^ 31) (h0 : 0 < d) (hd : d < 2 ^ 31) : nI a / nI d = nI (a / d) := by
  apply Int32.toInt_inj.mp
  rw [lg_idiv_nonneg (by rw [nI_toInt ha]; omega) (by rw [nI_toInt hd]; omega), nI_toInt ha, nI_toInt hd, nI_toInt (Nat.lt_of_le_of_lt (Nat.div_le_self a d) ha)]
  first | rfl | exact (Int.natCast_ediv _ _).symm
theorem pk_rem {a d : Nat} (ha : a < 2 ^ 31) (h0 : 0 < d) (hd : d < 2 ^ 31) : nI a - nI a / nI d * nI d = nI (a % d) := by
  rw [pk_div ha h0 hd, pk_mul, pk_sub (Nat.div_mul_le_self a d)]
  exact congrArg nI (by have := Nat.div_add_mod' a d; omega)
theorem pk_ix (x : Int32) {n : Nat} (hn : n < 2 ^ 31) : x < 0 ∨ nI n ≤ x ∨ ∃ j : Nat, j < n ∧ x = nI j := by
  by_cases h : x < 0
  · exact Or.inl h
  · obtain ⟨j, hj, rfl⟩ := nI_of h
    by_cases h2 : j < n
    · exact Or.inr (Or.inr ⟨j, h2, rfl⟩)
    · exact Or.inr (Or.inl (nI_le (by omega) hj))
theorem pk_le {x y : Int32} {A B : Prop} (a b : Nat) (f : a ≤ b → A) (g : b < a → B) (hx : x = nI a := by rfl) (hy : y = nI b := by rfl) (ha : a < 2 ^ 31 := by omega) (hb : b < 2 ^ 31 := by omega) : (x ≤ y → A) ∧ (¬ x ≤ y → B) := by
  subst hx hy
  rw [nI_leI ha hb]
  exact ⟨f, fun z => g (by omega)⟩
theorem pk_lt {x y : Int32} {A B : Prop} (a b : Nat) (f : a < b → A) (g : b ≤ a → B) (hx : x = nI a := by rfl) (hy : y = nI b := by rfl) (ha : a < 2 ^ 31 := by omega) (hb : b < 2 ^ 31 := by omega) : (x < y → A) ∧ (¬ x < y → B) := by
  subst hx hy
  rw [nI_ltI ha hb]
  exact ⟨f, fun z => g (by omega)⟩
theorem pk_eq {x y : Int32} {A B : Prop} (a b : Nat) (f : a = b → A) (g : a ≠ b → B) (hx : x = nI a := by rfl) (hy : y = nI b := by rfl) (ha : a < 2 ^ 31 := by omega) (hb : b < 2 ^ 31 := by omega) : (x = y → A) ∧ (¬ x = y → B) := by
  subst hx hy
  rw [nI_eq ha hb]
  exact ⟨f, g⟩
theorem pk_in {x : Int32} (n N : Nat) (h : n < N) (hx : x = nI n := by rfl) (hN : N < 2 ^ 31 := by omega) : vp_in x N := by
  subst hx
  exact vp_in_nI h hN
theorem pk_cl {x : Int32} (n : Nat) (hx : x = nI n := by rfl) (h : n < 2 ^ 31 := by omega) : x.toNatClampNeg = n := by
  subst hx
  exact nI_clamp h
theorem pk_loop {σ : Type} (W : Nat → Nat → σ → Prop) (I : Nat → σ → Prop) (e i0 : Nat) (s : σ) (hi : i0 ≤ e) (h0 : I i0 s) (hx : ∀ n s, I e s → W (n + 1) e s)
    (hs : ∀ n i s, i < e → I i s → (∀ s', I (i + 1) s' → W n (i + 1) s') → W (n + 1) i s) : ∃ n, W n i0 s :=
  ⟨e + 1, loop_i W I e hx hs (e + 1) i0 s hi (by omega) h0⟩
theorem pk_loopD {σ : Type} (W : Nat → Nat → σ → Prop) (I : Nat → σ → Prop) (hx : ∀ n s, I 0 s → W (n + 1) 0 s)
    (hs : ∀ n i s, I (i + 1) s → (∀ s', I i s' → W n i s') → W (n + 1) (i + 1) s) : ∀ (e : Nat) (s : σ), I e s → W (e + 1) e s := by
  intro e
  induction e with
  | zero => exact fun s h => hx 0 s h
  | succ e ih => exact fun s h => hs (e + 1) e s h (fun s' h' => ih s' h')
end
section
/-! the fold over all ways: a mixed-radix counter against nested loops -/
def ov_u {α : Type} (f : Nat → α) (k : Nat) (x : α) : Nat → α := fun j => if j = k then x else f j
theorem ov_us {α : Type} {f : Nat → α} {k : Nat} {x : α} : ov_u f k x k = x := if_pos rfl
theorem ov_un {α : Type} {f : Nat → α} {k j : Nat} {x : α} (h : j ≠ k) : ov_u f k x j = f j := if_neg h
def ov_fo {T : Type} (g : Nat → T → T) : Nat → T → T
  | 0, t => t
  | n + 1, t => g n (ov_fo g n t)
theorem ov_fo_add {T : Type} (g : Nat → T → T) (m : Nat) (t : T) : ∀ n, ov_fo g (m + n) t = ov_fo (fun i => g (m + i)) n (ov_fo g m t) := by
  intro n
  induction n with
  | zero => rfl
  | succ n ih =>
    show g (m + n) (ov_fo g (m + n) t) = g (m + n) (ov_fo (fun i => g (m + i)) n (ov_fo g m t))
    rw [ih]
theorem ov_fo_congr {T : Type} {g g' : Nat → T → T} : ∀ n, (∀ i, i < n → ∀ t, g i t = g' i t) → ∀ t, ov_fo g n t = ov_fo g' n t := by
  intro n
  induction n with
  | zero => exact fun _ _ => rfl
  | succ n ih =>
    intro h t
    show g n (ov_fo g n t) = g' n (ov_fo g' n t)
    rw [ih (fun i hi => h i (by omega)) t, h n (by omega)]
theorem ov_fo_id {T : Type} {g : Nat → T → T} : ∀ n, (∀ i, i < n → ∀ t, g i t = t) → ∀ t, ov_fo g n t = t := by
  intro n
  induction n with
  | zero => exact fun _ _ => rfl
  | succ n ih =>
    intro h t
    show g n (ov_fo g n t) = t
    rw [ih (fun i hi => h i (by omega)) t, h n (by omega)]
theorem ov_fo_mul {T : Type} (g : Nat → T → T) (m : Nat) (t : T) : ∀ n, ov_fo g (m * n) t = ov_fo (fun i => ov_fo (fun j => g (m * i + j)) m) n t := by
  intro n
  induction n with
  | zero => rfl
  | succ n ih =>
    rw [Nat.mul_succ, ov_fo_add, ih]
    rfl
def ov_P (b : Nat → Nat) : Nat → Nat
  | 0 => 1
  | k + 1 => ov_P b k * b k
def ov_dg (b : Nat → Nat) (w j : Nat) : Nat := w / ov_P b j % b j
def ov_rd (b : Nat → Nat) (k w : Nat) (d : Nat → Nat) : Nat → Nat := fun j => if j < k then ov_dg b w j else d j
def ov_ne {T : Type} (st : (Nat → Nat) → T → T) (b : Nat → Nat) : Nat → (Nat → Nat) → T → T
  | 0, d, t => st d t
  | k + 1, d, t => ov_fo (fun i => ov_ne st b k (ov_u d k i)) (b k) t
theorem ov_P_dvd (b : Nat → Nat) (q : Nat) : ∀ r, ov_P b q ∣ ov_P b (q + r) := by
  intro r
  induction r with
  | zero => exact Nat.dvd_refl _
  | succ r ih => exact Nat.dvd_trans ih (Nat.dvd_mul_right _ _)
theorem ov_P_dvd2 {b : Nat → Nat} {q k : Nat} (h : q ≤ k) : ov_P b q ∣ ov_P b k := by
  obtain ⟨r, rfl⟩ : ∃ r, k = q + r := ⟨k - q, by omega⟩
  exact ov_P_dvd b q r
theorem ov_P_pos {b : Nat → Nat} {q k : Nat} (h : q ≤ k) (hk : 0 < ov_P b k) : 0 < ov_P b q := by
  obtain ⟨c, hc⟩ := ov_P_dvd2 (b := b) h
  rcases Nat.eq_zero_or_pos (ov_P b q) with z | z
  · rw [hc, z, Nat.zero_mul] at hk; omega
  · exact z
theorem ov_b_pos {b : Nat → Nat} {q k : Nat} (h : q < k) (hk : 0 < ov_P b k) : 0 < b q := by
  have h1 : 0 < ov_P b (q + 1) := ov_P_pos (by omega) hk
  rcases Nat.eq_zero_or_pos (b q) with z | z
  · have : ov_P b (q + 1) = ov_P b q * b q := rfl
    rw [this, z, Nat.mul_zero] at h1; omega
  · exact z
theorem ov_P_le {b : Nat → Nat} (h : ∀ j, b j ≤ 4) : ∀ k, ov_P b k ≤ 4 ^ k := by
  intro k
  induction k with
  | zero => exact Nat.le_refl _
  | succ k ih =>
    show ov_P b k * b k ≤ 4 ^ k * 4
    exact Nat.mul_le_mul ih (h k)
theorem ov_dg_lt {b : Nat → Nat} {w j k : Nat} (hw : w < ov_P b k) (hj : j < k) : ov_dg b w j < b j :=
  Nat.mod_lt _ (ov_b_pos hj (by omega))
theorem ov_dg_hi {b : Nat → Nat} {k i j q : Nat} (hj : j < ov_P b k) (hq : q < k) : ov_dg b (ov_P b k * i + j) q = ov_dg b j q := by
  have hp : 0 < ov_P b q := ov_P_pos (Nat.le_of_lt hq) (show 0 < ov_P b k by omega)
  obtain ⟨c, hc⟩ := ov_P_dvd2 (b := b) (show q + 1 ≤ k from hq)
  have hc' : ov_P b k = ov_P b q * (b q * c) := by rw [hc, show ov_P b (q + 1) = ov_P b q * b q from rfl, Nat.mul_assoc]
  unfold ov_dg
  rw [hc', Nat.mul_assoc, Nat.mul_add_div hp, Nat.mul_assoc, Nat.mul_add_mod]
theorem ov_A0 {b : Nat → Nat} {k i j : Nat} {d : Nat → Nat} (hj : j < ov_P b k) (hi : i < b k) : ov_rd b (k + 1) (ov_P b k * i + j) d = ov_rd b k j (ov_u d k i) := by
  funext q
  unfold ov_rd
  by_cases h1 : q < k
  · rw [if_pos h1, if_pos (by omega), ov_dg_hi hj h1]
  · rw [if_neg h1]
    by_cases h2 : q = k
    · subst h2
      rw [if_pos (by omega), ov_us]
      unfold ov_dg
      rw [Nat.mul_add_div (by omega), Nat.div_eq_of_lt hj, Nat.add_zero, Nat.mod_eq_of_lt hi]
    · rw [if_neg (by omega), ov_un h2]
theorem ov_A1 {T : Type} (st : (Nat → Nat) → T → T) (b : Nat → Nat) : ∀ k d t, ov_fo (fun w => st (ov_rd b k w d)) (ov_P b k) t = ov_ne st b k d t := by
  intro k
  induction k with
  | zero =>
    intro d t
    have h : ov_rd b 0 0 d = d := by funext q; exact if_neg (by omega)
    show st (ov_rd b 0 0 d) t = st d t
    rw [h]
  | succ k ih =>
    intro d t
    show ov_fo _ (ov_P b k * b k) t = ov_fo (fun i => ov_ne st b k (ov_u d k i)) (b k) t
    rw [ov_fo_mul]
    refine ov_fo_congr _ (fun i hi t => ?_) t
    rw [← ih]
    refine ov_fo_congr _ (fun j hj t => ?_) t
    rw [ov_A0 hj hi]
theorem ov_ne_id {T : Type} (st : (Nat → Nat) → T → T) (b : Nat → Nat) : ∀ k d, (∀ d', (∀ j, k ≤ j → d' j = d j) → ∀ t, st d' t = t) → ∀ t, ov_ne st b k d t = t := by
  intro k
  induction k with
  | zero => exact fun d h t => h d (fun _ _ => rfl) t
  | succ k ih =>
    intro d h t
    show ov_fo (fun i => ov_ne st b k (ov_u d k i)) (b k) t = t
    refine ov_fo_id _ (fun i hi t => ih _ (fun d' hd' t => h d' (fun j hj => ?_) t) t) t
    rw [hd' j (by omega), ov_un (by omega)]
theorem ov_ne_eq {T : Type} (st : (Nat → Nat) → T → T) (bX bY : Nat → Nat) (hle : ∀ j, bX j ≤ bY j) (hb : ∀ j d, bX j ≤ d j → d j < bY j → ∀ t, st d t = t) : ∀ k d t, ov_ne st bX k d t = ov_ne st bY k d t := by
  intro k
  induction k with
  | zero => exact fun _ _ => rfl
  | succ k ih =>
    intro d t
    show ov_fo (fun i => ov_ne st bX k (ov_u d k i)) (bX k) t = ov_fo (fun i => ov_ne st bY k (ov_u d k i)) (bY k) t
    obtain ⟨c, hc⟩ : ∃ c, bY k = bX k + c := ⟨bY k - bX k, by have := hle k; omega⟩
    rw [hc, ov_fo_add, ov_fo_congr _ (fun i _ t => ih (ov_u d k i) t) t]
    refine (ov_fo_id _ (fun i hi t => ?_) _).symm
    refine ov_ne_id st bY k _ (fun d' hd' t => ?_) t
    have h1 := hd' k (Nat.le_refl k)
    rw [ov_us] at h1
    exact hb k d' (by omega) (by omega) t
theorem ov_main {T : Type} (st : (Nat → Nat) → T → T) (bX bY : Nat → Nat) (hle : ∀ j, bX j ≤ bY j) (hb : ∀ j d, bX j ≤ d j → d j < bY j → ∀ t, st d t = t) (k : Nat) (d : Nat → Nat) (t : T) : ov_fo (fun w => st (ov_rd bX k w d)) (ov_P bX k) t = ov_fo (fun w => st (ov_rd bY k w d)) (ov_P bY k) t := by
  rw [ov_A1, ov_A1, ov_ne_eq st bX bY hle hb]
/-! one step of the counter -/
theorem ov_nxv {p w : Nat} (hp : 0 < p) (h : p ∣ w + 1) : ∃ v, w / p = v ∧ (w + 1) / p = v + 1 ∧ w + 1 = p * (v + 1) := by
  obtain ⟨c, hc⟩ := h
  obtain ⟨v, rfl⟩ : ∃ v, c = v + 1 := ⟨c - 1, by rcases Nat.eq_zero_or_pos c with z | z
                                                 · rw [z] at hc; omega
                                                 · omega⟩
  refine ⟨v, ?_, ?_, hc⟩
  · have h1 : w = p * v + (p - 1) := by rw [Nat.mul_succ] at hc; omega
    rw [h1, Nat.mul_add_div hp, Nat.div_eq_of_lt (by omega), Nat.add_zero]
  · rw [hc, Nat.mul_div_cancel_left _ hp]
theorem ov_nx0 {b : Nat → Nat} {x j : Nat} (hp : 0 < ov_P b j) (h : ov_P b (j + 1) ∣ x) : ov_dg b x j = 0 := by
  obtain ⟨c, rfl⟩ := h
  unfold ov_dg
  rw [show ov_P b (j + 1) = ov_P b j * b j from rfl, Nat.mul_assoc, Nat.mul_div_cancel_left _ hp, Nat.mul_mod_right]
theorem ov_nx1 {b : Nat → Nat} {w i : Nat} (hp : 0 < ov_P b i) (hb : 0 < b i) (h : ov_P b i ∣ w + 1) (hc : b i ≤ ov_dg b w i + 1) : ov_P b (i + 1) ∣ w + 1 := by
  obtain ⟨v, h1, h2, h3⟩ := ov_nxv hp h
  unfold ov_dg at hc
  rw [h1] at hc
  have h4 : v % b i < b i := Nat.mod_lt _ hb
  have h5 := Nat.div_add_mod v (b i)
  refine ⟨v / b i + 1, ?_⟩
  rw [h3, show ov_P b (i + 1) = ov_P b i * b i from rfl, Nat.mul_assoc, Nat.mul_succ (b i)]
  exact congrArg (ov_P b i * ·) (by omega)
theorem ov_nx2 {b : Nat → Nat} {w i : Nat} (hp : 0 < ov_P b i) (h : ov_P b i ∣ w + 1) (hc : ov_dg b w i + 1 < b i) : ov_dg b (w + 1) i = ov_dg b w i + 1 := by
  obtain ⟨v, h1, h2, h3⟩ := ov_nxv hp h
  unfold ov_dg at hc ⊢
  rw [h1] at hc
  rw [h1, h2]
  have h5 := Nat.div_add_mod v (b i)
  have h6 : v + 1 = b i * (v / b i) + (v % b i + 1) := by omega
  rw [h6, Nat.mul_add_mod, Nat.mod_eq_of_lt hc]
theorem ov_nx3 {b : Nat → Nat} {w i j : Nat} (hp : 0 < ov_P b i) (h : ov_P b i ∣ w + 1) (hc : ov_dg b w i + 1 < b i) (hj : i < j) : ov_dg b (w + 1) j = ov_dg b w j := by
  obtain ⟨v, h1, h2, h3⟩ := ov_nxv hp h
  obtain ⟨c, hP⟩ := ov_P_dvd2 (b := b) (show i + 1 ≤ j from hj)
  unfold ov_dg at hc ⊢
  rw [h1] at hc
  have h5 := Nat.div_add_mod v (b i)
  have h6 : v + 1 = b i * (v / b i) + (v % b i + 1) := by omega
  have h7 : (v + 1) / b i = v / b i := by
    rw [h6, Nat.mul_add_div (by omega), Nat.div_eq_of_lt hc, Nat.add_zero]
  have q : ∀ x : Nat, x / (ov_P b i * (b i * c)) = x / ov_P b i / b i / c := fun x => by
    rw [← Nat.div_div_eq_div_mul, ← Nat.div_div_eq_div_mul]
  rw [hP, show ov_P b (i + 1) = ov_P b i * b i from rfl, Nat.mul_assoc, q, q, h1, h2, h7]
end
section
/-! the pure picture: what both sides hold, the parts of an expression, the cost of a way to choose -/
abbrev ov_E : Type := Nat × (Nat → Option Nat) × (Nat → Nat) × (Nat → Nat) × (Nat → Nat) × (Nat → Nat) × (Nat → Nat) × (Nat → Nat) × (Nat → Nat) × (Nat → Nat) × (Nat → Nat)
def ov_nc (e : ov_E) : Nat := e.1
def ov_cv (e : ov_E) : Nat → Option Nat := e.2.1
def ov_st (e : ov_E) : Nat → Nat := e.2.2.1
def ov_sc (e : ov_E) : Nat → Nat := e.2.2.2.1
def ov_hd (e : ov_E) : Nat → Nat := e.2.2.2.2.1
def ov_vs (e : ov_E) : Nat → Nat := e.2.2.2.2.2.1
def ov_lt (e : ov_E) : Nat → Nat := e.2.2.2.2.2.2.1
def ov_kd (e : ov_E) : Nat → Nat := e.2.2.2.2.2.2.2.1
def ov_ct (e : ov_E) : Nat → Nat := e.2.2.2.2.2.2.2.2.1
def ov_lf (e : ov_E) : Nat → Nat := e.2.2.2.2.2.2.2.2.2.1
def ov_rt (e : ov_E) : Nat → Nat := e.2.2.2.2.2.2.2.2.2.2
/-- counting -/
def ov_cn (p : Nat → Bool) : Nat → Nat
  | 0 => 0
  | k + 1 => ov_cn p k + (if p k = true then 1 else 0)
theorem ov_cn_le {p q : Nat → Bool} : ∀ k, (∀ j, j < k → p j = true → q j = true) → ov_cn p k ≤ ov_cn q k := by
  intro k
  induction k with
  | zero => exact fun _ => Nat.le_refl _
  | succ k ih =>
    intro h
    have h1 := ih (fun j hj => h j (by omega))
    show ov_cn p k + (if p k = true then 1 else 0) ≤ ov_cn q k + (if q k = true then 1 else 0)
    by_cases hp : p k = true
    · rw [if_pos hp, if_pos (h k (by omega) hp)]; omega
    · rw [if_neg hp]; omega
theorem ov_cn_lt {p q : Nat → Bool} {a : Nat} (hp : p a = false) (hq : q a = true) : ∀ k, a < k → (∀ j, j < k → p j = true → q j = true) → ov_cn p k + 1 ≤ ov_cn q k := by
  intro k
  induction k with
  | zero => intro h; omega
  | succ k ih =>
    intro ha h
    show ov_cn p k + (if p k = true then 1 else 0) + 1 ≤ ov_cn q k + (if q k = true then 1 else 0)
    by_cases hk : a = k
    · subst hk
      have h1 := ov_cn_le (p := p) (q := q) a (fun j hj => h j (by omega))
      rw [if_pos hq, if_neg (by rw [hp]; exact Bool.false_ne_true)]; omega
    · have h1 := ih (by omega) (fun j hj => h j (by omega))
      by_cases hp : p k = true
      · rw [if_pos hp, if_pos (h k (by omega) hp)]; omega
      · rw [if_neg hp]; omega
theorem ov_cn_u {f : Nat → Bool} {a : Nat} : ∀ k, ov_cn (ov_u f a true) k ≤ ov_cn f k + (if a < k then 1 else 0) := by
  intro k
  induction k with
  | zero => exact Nat.zero_le _
  | succ k ih =>
    show ov_cn (ov_u f a true) k + (if ov_u f a true k = true then 1 else 0) ≤ ov_cn f k + (if f k = true then 1 else 0) + (if a < k + 1 then 1 else 0)
    by_cases hk : k = a
    · subst hk
      rw [if_neg (by omega)] at ih
      rw [if_pos ov_us, if_pos (show k < k + 1 by omega)]; omega
    · rw [ov_un hk]
      by_cases h1 : a < k
      · rw [if_pos h1] at ih; rw [if_pos (show a < k + 1 by omega)]; omega
      · rw [if_neg h1] at ih; omega
theorem ov_cn_u1 {f : Nat → Bool} {a : Nat} (k : Nat) : ov_cn (ov_u f a true) k ≤ ov_cn f k + 1 := by
  have h := ov_cn_u (f := f) (a := a) k
  by_cases h1 : a < k
  · rw [if_pos h1] at h; exact h
  · rw [if_neg h1] at h; omega
theorem ov_cn_0 {p : Nat → Bool} {m : Nat} : ∀ r, (∀ j, m ≤ j → p j = false) → ov_cn p (m + r) = ov_cn p m := by
  intro r
  induction r with
  | zero => exact fun _ => rfl
  | succ r ih =>
    intro h
    show ov_cn p (m + r) + (if p (m + r) = true then 1 else 0) = _
    rw [ih h, h (m + r) (by omega), if_neg Bool.false_ne_true, Nat.add_zero]
theorem ov_cn_mono {p : Nat → Bool} {m : Nat} : ∀ r, ov_cn p m ≤ ov_cn p (m + r) := by
  intro r
  induction r with
  | zero => exact Nat.le_refl _
  | succ r ih => exact Nat.le_trans ih (Nat.le_add_right _ _)
theorem ov_cn_k {p : Nat → Bool} : ∀ k, ov_cn p k ≤ k := by
  intro k
  induction k with
  | zero => exact Nat.le_refl _
  | succ k ih =>
    show ov_cn p k + (if p k = true then 1 else 0) ≤ k + 1
    by_cases h : p k = true
    · rw [if_pos h]; omega
    · rw [if_neg h]; omega
def ov_ap (e : ov_E) : Nat → Bool := fun j => decide (ov_kd e j = 3)
def ov_ac (e : ov_E) : Nat := ov_cn (ov_ap e) (ov_nc e)
def ov_N (e : ov_E) (n : Nat) : Prop := ov_kd e n ≤ 3 ∧ (ov_kd e n = 1 → ov_ct e n < 2) ∧ (ov_kd e n = 2 → ov_ct e n < 3) ∧ (ov_kd e n = 3 → ov_ct e n < 3 ∧ ov_lf e n < n ∧ ov_rt e n < n)
/-- what always holds -/
def ov_W (e : ov_E) : Prop := ov_nc e ≤ 12 ∧ (∀ i c, ov_cv e i = some c → c ≤ 9) ∧ (∀ i, ov_st e i < 27) ∧ (∀ i, ov_sc e i ≤ 9) ∧ (∀ i, ov_hd e i ≤ 4) ∧ (∀ i, ov_vs e i < 8) ∧ (∀ i, ov_lt e i ≤ 9) ∧ (∀ i, ov_ct e i < 8) ∧ (∀ n, n < ov_nc e → ov_N e n) ∧ ov_ac e ≤ 3
/-- the parts -/
def ov_mk (e : ov_E) : Nat → (Nat → Bool) → (Nat → Bool)
  | 0, f => f
  | n + 1, f => ov_mk e n (if f n = true ∧ ov_kd e n = 3 then ov_u (ov_u f (ov_lf e n) true) (ov_rt e n) true else f)
def ov_pb (e : ov_E) (node : Nat) : Nat → Bool := ov_mk e (node + 1) (fun j => decide (j = node))
def ov_pa (e : ov_E) (f : Nat → Bool) (n : Nat) : Nat → Bool := fun j => f j && decide (n ≤ j) && decide (ov_kd e j = 3)
def ov_pi (e : ov_E) (node n : Nat) (f : Nat → Bool) : Prop :=
  (∀ j, f j = true → j ≤ node) ∧ f node = true ∧ (∀ m, n ≤ m → f m = true → ov_kd e m = 3 → f (ov_lf e m) = true ∧ f (ov_rt e m) = true) ∧ ov_cn f 12 ≤ 1 + 2 * ov_cn (ov_pa e f n) 12
theorem ov_ut {f : Nat → Bool} {a j : Nat} (h : f j = true) : ov_u f a true j = true := by
  by_cases hj : j = a
  · subst hj; exact ov_us
  · rw [ov_un hj]; exact h
theorem ov_mk_pi {e : ov_E} {node : Nat} (hw : ov_W e) (hn : node < ov_nc e) : ∀ n f, n ≤ node + 1 → ov_pi e node n f → ov_pi e node 0 (ov_mk e n f) := by
  intro n
  induction n with
  | zero => exact fun f _ h => h
  | succ n ih =>
    intro f hle h
    obtain ⟨h1, h2, h3, h4⟩ := h
    have hN := hw.2.2.2.2.2.2.2.2.1 n (by omega)
    have h12 := hw.1
    refine ih _ (by omega) ?_
    by_cases hc : f n = true ∧ ov_kd e n = 3
    · rw [if_pos hc]
      obtain ⟨_, hl, hr⟩ := hN.2.2.2 hc.2
      refine ⟨fun j hj => ?_, ov_ut (ov_ut h2), fun m hm hf hk => ?_, ?_⟩
      · by_cases a1 : j = ov_rt e n
        · omega
        · rw [ov_un a1] at hj
          by_cases a2 : j = ov_lf e n
          · omega
          · rw [ov_un a2] at hj; exact h1 j hj
      · by_cases a3 : m = n
        · subst a3
          exact ⟨ov_ut ov_us, ov_us⟩
        · rw [ov_un (by omega), ov_un (by omega)] at hf
          obtain ⟨b1, b2⟩ := h3 m (by omega) hf hk
          exact ⟨ov_ut (ov_ut b1), ov_ut (ov_ut b2)⟩
      · have c1 := ov_cn_u1 (f := ov_u f (ov_lf e n) true) (a := ov_rt e n) 12
        have c2 := ov_cn_u1 (f := f) (a := ov_lf e n) 12
        have c3 := ov_cn_lt (p := ov_pa e f (n + 1)) (q := ov_pa e (ov_u (ov_u f (ov_lf e n) true) (ov_rt e n) true) n) (a := n)
          (by unfold ov_pa; rw [decide_eq_false (show ¬ n + 1 ≤ n by omega), Bool.and_false, Bool.false_and])
          (by unfold ov_pa; rw [ov_ut (ov_ut hc.1), decide_eq_true (Nat.le_refl n), decide_eq_true hc.2]; rfl) 12 (by omega)
          (fun j _ hj => by
            unfold ov_pa at hj ⊢
            rw [Bool.and_eq_true, Bool.and_eq_true] at hj
            rw [ov_ut (ov_ut hj.1.1), hj.2, decide_eq_true (show n ≤ j by have := of_decide_eq_true hj.1.2; omega)]; rfl)
        omega
    · rw [if_neg hc]
      refine ⟨h1, h2, fun m hm hf hk => ?_, ?_⟩
      · by_cases a3 : m = n
        · subst a3; exact absurd ⟨hf, hk⟩ hc
        · exact h3 m (by omega) hf hk
      · have c3 := ov_cn_le (p := ov_pa e f (n + 1)) (q := ov_pa e f n) 12 (fun j _ hj => by
            unfold ov_pa at hj ⊢
            rw [Bool.and_eq_true, Bool.and_eq_true] at hj
            rw [hj.1.1, hj.2, decide_eq_true (show n ≤ j by have := of_decide_eq_true hj.1.2; omega)]; rfl)
        omega
theorem ov_cn_1 (a : Nat) : ∀ k, ov_cn (fun j => decide (j = a)) k ≤ if a < k then 1 else 0 := by
  intro k
  induction k with
  | zero => exact Nat.le_refl _
  | succ k ih =>
    show ov_cn (fun j => decide (j = a)) k + (if decide (k = a) = true then 1 else 0) ≤ _
    by_cases h : k = a
    · subst h
      rw [if_neg (by omega)] at ih
      rw [if_pos (decide_eq_true rfl), if_pos (by omega)]; omega
    · rw [decide_eq_false h, if_neg Bool.false_ne_true]
      by_cases h1 : a < k
      · rw [if_pos h1] at ih; rw [if_pos (by omega)]; omega
      · rw [if_neg h1] at ih; omega
theorem ov_pb_pi {e : ov_E} {node : Nat} (hw : ov_W e) (hn : node < ov_nc e) : ov_pi e node 0 (ov_pb e node) := by
  have h12 := hw.1
  refine ov_mk_pi hw hn _ _ (Nat.le_refl _) ⟨fun j hj => ?_, decide_eq_true rfl, fun m hm hf _ => ?_, ?_⟩
  · have := of_decide_eq_true hj; omega
  · have := of_decide_eq_true hf; omega
  · have := ov_cn_1 node 12
    rw [if_pos (by omega)] at this
    omega
end
section
def ov_bit (s t : Nat) : Bool := decide (s / 2 ^ t % 2 = 1)
def ov_ty (e : ov_E) (d : Nat → Nat) (n : Nat) : Nat :=
  if ov_kd e n = 0 then d n else if ov_kd e n = 1 then d (12 + ov_ct e n) else if ov_kd e n = 2 then ov_ct e n else ov_st e (4 * ov_ct e n + d n) % 3
/-- the sum of what may be wanting -/
def ov_pl (a b : Option Nat) : Option Nat := match a, b with
  | some x, some y => some (x + y)
  | _, _ => none
def ov_ca (e : ov_E) (i tl tr : Nat) : Option Nat := ov_pl (ov_pl (some (ov_sc e i)) (ov_cv e (3 * tl + ov_st e i / 9))) (ov_cv e (3 * tr + ov_st e i / 3 % 3))
def ov_cp (e : ov_E) (d : Nat → Nat) (n : Nat) : Option Nat :=
  if ov_kd e n = 0 then (if ov_bit (ov_ct e n) (d n) = true then some (ov_lt e (d n)) else none)
  else if ov_kd e n = 1 then (if ov_bit (ov_vs e (ov_ct e n)) (d (12 + ov_ct e n)) = true then some 0 else none)
  else if ov_kd e n = 2 then some 0
  else if d n < ov_hd e (ov_ct e n) then ov_ca e (4 * ov_ct e n + d n) (ov_ty e d (ov_lf e n)) (ov_ty e d (ov_rt e n)) else none
def ov_sm (e : ov_E) (pb : Nat → Bool) (d : Nat → Nat) : Nat → Option Nat
  | 0 => some 0
  | k + 1 => if pb k = true then ov_pl (ov_sm e pb d k) (ov_cp e d k) else ov_sm e pb d k
def ov_co (e : ov_E) (pb : Nat → Bool) (node wanted : Nat) (d : Nat → Nat) : Option Nat :=
  if wanted = 3 then ov_sm e pb d (node + 1) else ov_pl (ov_sm e pb d (node + 1)) (ov_cv e (3 * ov_ty e d node + wanted))
theorem ov_pl_n {a : Option Nat} : ov_pl a none = none := by cases a <;> rfl
theorem ov_pl_n' {a : Option Nat} : ov_pl none a = none := by cases a <;> rfl
theorem ov_pl_s {a b : Option Nat} {c : Nat} (h : ov_pl a b = some c) : ∃ x y, a = some x ∧ b = some y ∧ c = x + y := by
  cases a with
  | none => rw [ov_pl_n'] at h; cases h
  | some x => cases b with
    | none => rw [ov_pl_n] at h; cases h
    | some y => exact ⟨x, y, rfl, rfl, (Option.some.inj h).symm⟩
theorem ov_ca_le {e : ov_E} (hw : ov_W e) {i tl tr c : Nat} (h : ov_ca e i tl tr = some c) : c ≤ 27 := by
  obtain ⟨x, y, h1, h2, rfl⟩ := ov_pl_s h
  obtain ⟨x', y', h3, h4, rfl⟩ := ov_pl_s h1
  have a1 := hw.2.1 _ _ h2
  have a2 := hw.2.1 _ _ h4
  have a3 := hw.2.2.2.1 i
  have a4 := Option.some.inj h3
  omega
theorem ov_cp_le {e : ov_E} (hw : ov_W e) {d : Nat → Nat} {n c : Nat} (hk : ov_kd e n ≤ 3) (h : ov_cp e d n = some c) : c ≤ 9 + (if ov_kd e n = 3 then 18 else 0) := by
  unfold ov_cp at h
  by_cases h0 : ov_kd e n = 0
  · rw [if_pos h0] at h
    by_cases hb : ov_bit (ov_ct e n) (d n) = true
    · rw [if_pos hb] at h
      have := hw.2.2.2.2.2.2.1 (d n)
      have := Option.some.inj h
      omega
    · rw [if_neg hb] at h; cases h
  · rw [if_neg h0] at h
    by_cases h1 : ov_kd e n = 1
    · rw [if_pos h1] at h
      by_cases hb : ov_bit (ov_vs e (ov_ct e n)) (d (12 + ov_ct e n)) = true
      · rw [if_pos hb] at h
        have := Option.some.inj h
        omega
      · rw [if_neg hb] at h; cases h
    · rw [if_neg h1] at h
      by_cases h2 : ov_kd e n = 2
      · rw [if_pos h2] at h
        have := Option.some.inj h
        omega
      · rw [if_neg h2] at h
        by_cases hb : d n < ov_hd e (ov_ct e n)
        · rw [if_pos hb] at h
          rw [if_pos (by omega)]
          exact ov_ca_le hw h
        · rw [if_neg hb] at h; cases h
def ov_P1 (e : ov_E) (pb : Nat → Bool) (node : Nat) : Prop := node < ov_nc e ∧ ov_pi e node 0 pb
theorem ov_sm_le {e : ov_E} (hw : ov_W e) {pb : Nat → Bool} {node : Nat} (hp : ov_P1 e pb node) {d : Nat → Nat} : ∀ k s, ov_sm e pb d k = some s → s ≤ 9 * ov_cn pb k + 18 * ov_cn (ov_pa e pb 0) k := by
  intro k
  induction k with
  | zero => intro s h; have := Option.some.inj h; omega
  | succ k ih =>
    intro s h
    show s ≤ 9 * (ov_cn pb k + (if pb k = true then 1 else 0)) + 18 * (ov_cn (ov_pa e pb 0) k + (if ov_pa e pb 0 k = true then 1 else 0))
    have h' : (if pb k = true then ov_pl (ov_sm e pb d k) (ov_cp e d k) else ov_sm e pb d k) = some s := h
    by_cases hk : pb k = true
    · rw [if_pos hk] at h'
      obtain ⟨x, y, h1, h2, rfl⟩ := ov_pl_s h'
      have a1 := ih x h1
      have a0 := hp.2.1 k hk
      have a00 := hp.1
      have a2 := ov_cp_le hw (hw.2.2.2.2.2.2.2.2.1 k (by omega)).1 h2
      rw [if_pos hk]
      by_cases h3 : ov_kd e k = 3
      · rw [if_pos h3] at a2
        rw [if_pos (show ov_pa e pb 0 k = true by unfold ov_pa; rw [hk, decide_eq_true (Nat.zero_le k), decide_eq_true h3]; rfl)]
        omega
      · rw [if_neg h3] at a2
        omega
    · rw [if_neg hk] at h'
      have a1 := ih s h'
      omega
theorem ov_pa_3 {e : ov_E} (hw : ov_W e) {pb : Nat → Bool} {node : Nat} (hp : ov_P1 e pb node) : ov_cn (ov_pa e pb 0) 12 ≤ 3 := by
  have h12 := hw.1
  have h1 : ov_cn (ov_pa e pb 0) (ov_nc e + (12 - ov_nc e)) = ov_cn (ov_pa e pb 0) (ov_nc e) := ov_cn_0 _ (fun j hj => by
    by_cases h : pb j = true
    · have := hp.2.1 j h; have := hp.1; omega
    · unfold ov_pa; rw [Bool.eq_false_iff.mpr h, Bool.false_and, Bool.false_and])
  rw [show ov_nc e + (12 - ov_nc e) = 12 by omega] at h1
  have h2 := ov_cn_le (p := ov_pa e pb 0) (q := ov_ap e) (ov_nc e) (fun j _ hj => by
    unfold ov_pa at hj
    rw [Bool.and_eq_true] at hj
    exact hj.2)
  have h3 : ov_cn (ov_ap e) (ov_nc e) ≤ 3 := hw.2.2.2.2.2.2.2.2.2
  omega
theorem ov_co_le {e : ov_E} (hw : ov_W e) {pb : Nat → Bool} {node : Nat} (hp : ov_P1 e pb node) {wanted : Nat} {d : Nat → Nat} {c : Nat} (h : ov_co e pb node wanted d = some c) : c < 127 := by
  have h12 := hw.1
  have hn := hp.1
  have key : ∀ s, ov_sm e pb d (node + 1) = some s → s ≤ 117 := fun s hs => by
    have a1 := ov_sm_le hw hp (d := d) _ s hs
    have a2 := ov_pa_3 hw hp
    have a3 := hp.2.2.2.2
    have a4 := ov_cn_mono (p := pb) (m := node + 1) (12 - (node + 1))
    have a5 := ov_cn_mono (p := ov_pa e pb 0) (m := node + 1) (12 - (node + 1))
    rw [show node + 1 + (12 - (node + 1)) = 12 by omega] at a4 a5
    omega
  unfold ov_co at h
  by_cases h3 : wanted = 3
  · rw [if_pos h3] at h
    have := key c h
    omega
  · rw [if_neg h3] at h
    obtain ⟨x, y, h1, h2, rfl⟩ := ov_pl_s h
    have := key x h1
    have := hw.2.1 _ _ h2
    omega
/-! what must hold of the choices of all parts, and the bases of the counter -/
def ov_g1 (e : ov_E) (d : Nat → Nat) (n : Nat) : Bool := if ov_kd e n = 0 then ov_bit (ov_ct e n) (d n) else if ov_kd e n = 3 then decide (d n < ov_hd e (ov_ct e n)) else true
def ov_G (e : ov_E) (pb : Nat → Bool) (d : Nat → Nat) : Prop := ∀ n, pb n = true → ov_g1 e d n = true ∧ (ov_kd e n = 1 → ov_bit (ov_vs e (ov_ct e n)) (d (12 + ov_ct e n)) = true)
theorem ov_cp_g {e : ov_E} {d : Nat → Nat} {n c : Nat} (hk : ov_kd e n ≤ 3) (h : ov_cp e d n = some c) : ov_g1 e d n = true ∧ (ov_kd e n = 1 → ov_bit (ov_vs e (ov_ct e n)) (d (12 + ov_ct e n)) = true) := by
  unfold ov_cp at h
  unfold ov_g1
  by_cases h0 : ov_kd e n = 0
  · rw [if_pos h0] at h ⊢
    refine ⟨?_, fun h1 => by omega⟩
    by_cases hb : ov_bit (ov_ct e n) (d n) = true
    · exact hb
    · rw [if_neg hb] at h; cases h
  · rw [if_neg h0] at h ⊢
    by_cases h1 : ov_kd e n = 1
    · rw [if_pos h1] at h
      rw [if_neg (by omega)]
      refine ⟨rfl, fun _ => ?_⟩
      by_cases hb : ov_bit (ov_vs e (ov_ct e n)) (d (12 + ov_ct e n)) = true
      · exact hb
      · rw [if_neg hb] at h; cases h
    · rw [if_neg h1] at h
      refine ⟨?_, fun h2 => absurd h2 h1⟩
      by_cases h2 : ov_kd e n = 2
      · rw [if_neg (by omega)]
      · rw [if_neg h2] at h
        rw [if_pos (by omega)]
        by_cases hb : d n < ov_hd e (ov_ct e n)
        · exact decide_eq_true hb
        · rw [if_neg hb] at h; cases h
theorem ov_sm_p {e : ov_E} {pb : Nat → Bool} {d : Nat → Nat} : ∀ k s, ov_sm e pb d k = some s → ∀ n, n < k → pb n = true → ∃ c, ov_cp e d n = some c := by
  intro k
  induction k with
  | zero => intro s _ n hn; omega
  | succ k ih =>
    intro s h n hn hb
    have h' : (if pb k = true then ov_pl (ov_sm e pb d k) (ov_cp e d k) else ov_sm e pb d k) = some s := h
    by_cases hk : pb k = true
    · rw [if_pos hk] at h'
      obtain ⟨x, y, h1, h2, _⟩ := ov_pl_s h'
      by_cases hnk : n = k
      · subst hnk; exact ⟨y, h2⟩
      · exact ih x h1 n (by omega) hb
    · rw [if_neg hk] at h'
      by_cases hnk : n = k
      · subst hnk; exact absurd hb hk
      · exact ih s h' n (by omega) hb
theorem ov_co_sm {e : ov_E} {pb : Nat → Bool} {node wanted c : Nat} {d : Nat → Nat} (h : ov_co e pb node wanted d = some c) : ∃ s, ov_sm e pb d (node + 1) = some s := by
  unfold ov_co at h
  by_cases h3 : wanted = 3
  · rw [if_pos h3] at h; exact ⟨c, h⟩
  · rw [if_neg h3] at h
    obtain ⟨x, y, h1, _, _⟩ := ov_pl_s h
    exact ⟨x, h1⟩
theorem ov_co_G {e : ov_E} (hw : ov_W e) {pb : Nat → Bool} {node : Nat} (hp : ov_P1 e pb node) {wanted c : Nat} {d : Nat → Nat} (h : ov_co e pb node wanted d = some c) : ov_G e pb d := by
  obtain ⟨s, hs⟩ := ov_co_sm h
  intro n hn
  have h1 := hp.2.1 n hn
  have h2 := hp.1
  obtain ⟨c', hc⟩ := ov_sm_p _ _ hs n (by omega) hn
  exact ov_cp_g (hw.2.2.2.2.2.2.2.2.1 n (by omega)).1 hc
def ov_nm (e : ov_E) (pb : Nat → Bool) (v : Nat) : Nat → Bool
  | 0 => false
  | k + 1 => ov_nm e pb v k || (pb k && decide (ov_kd e k = 1) && decide (ov_ct e k = v))
def ov_b (e : ov_E) (pb : Nat → Bool) (a : Nat → Nat) (j : Nat) : Nat :=
  if j < 12 then (if pb j = true then (if ov_kd e j = 0 then 3 else if ov_kd e j = 3 then a j else 1) else 1) else if ov_nm e pb (j - 12) 12 = true then 3 else 1
def ov_hc (e : ov_E) : Nat → Nat := fun j => ov_hd e (ov_ct e j)
def ov_4 : Nat → Nat := fun _ => 4
theorem ov_nm_of {e : ov_E} {pb : Nat → Bool} {n : Nat} (hb : pb n = true) (hk : ov_kd e n = 1) : ∀ k, n < k → ov_nm e pb (ov_ct e n) k = true := by
  intro k
  induction k with
  | zero => intro h; omega
  | succ k ih =>
    intro h
    show (ov_nm e pb (ov_ct e n) k || (pb k && decide (ov_kd e k = 1) && decide (ov_ct e k = ov_ct e n))) = true
    by_cases hn : n = k
    · subst hn
      rw [hb, decide_eq_true hk, decide_eq_true rfl]
      exact Bool.or_true _
    · rw [ih (by omega)]; exact Bool.true_or _
theorem ov_nm_ex {e : ov_E} {pb : Nat → Bool} {v : Nat} : ∀ k, ov_nm e pb v k = true → ∃ n, n < k ∧ pb n = true ∧ ov_kd e n = 1 ∧ ov_ct e n = v := by
  intro k
  induction k with
  | zero => intro h; cases h
  | succ k ih =>
    intro h
    have h' : (ov_nm e pb v k || (pb k && decide (ov_kd e k = 1) && decide (ov_ct e k = v))) = true := h
    rw [Bool.or_eq_true, Bool.and_eq_true, Bool.and_eq_true] at h'
    rcases h' with h' | h'
    · obtain ⟨n, h1, h2⟩ := ih h'
      exact ⟨n, by omega, h2⟩
    · exact ⟨k, by omega, h'.1.1, of_decide_eq_true h'.1.2, of_decide_eq_true h'.2⟩
theorem ov_nm_hi {e : ov_E} {pb : Nat → Bool} {v m : Nat} (h : ∀ j, m ≤ j → pb j = false) : ∀ r, ov_nm e pb v (m + r) = ov_nm e pb v m := by
  intro r
  induction r with
  | zero => rfl
  | succ r ih =>
    show (ov_nm e pb v (m + r) || (pb (m + r) && decide (ov_kd e (m + r) = 1) && decide (ov_ct e (m + r) = v))) = _
    rw [ih, h _ (by omega), Bool.false_and, Bool.false_and, Bool.or_false]
theorem ov_pb_f {e : ov_E} {pb : Nat → Bool} {node : Nat} (hp : ov_P1 e pb node) {j : Nat} (h : ov_nc e ≤ j) : pb j = false := by
  by_cases hb : pb j = true
  · have := hp.2.1 j hb; have := hp.1; omega
  · exact Bool.eq_false_iff.mpr hb
theorem ov_nm_nc {e : ov_E} (hw : ov_W e) {pb : Nat → Bool} {node : Nat} (hp : ov_P1 e pb node) (v : Nat) : ov_nm e pb v (ov_nc e) = ov_nm e pb v 12 := by
  have h := ov_nm_hi (e := e) (pb := pb) (v := v) (m := ov_nc e) (fun j hj => ov_pb_f hp hj) (12 - ov_nc e)
  rw [show ov_nc e + (12 - ov_nc e) = 12 by have := hw.1; omega] at h
  exact h.symm
theorem ov_b_le {e : ov_E} {pb : Nat → Bool} {a : Nat → Nat} (h : ∀ j, a j ≤ 4) (j : Nat) : ov_b e pb a j ≤ 4 := by
  unfold ov_b
  have := h j
  repeat' split
  all_goals omega
theorem ov_hc_le {e : ov_E} (hw : ov_W e) (j : Nat) : ov_hc e j ≤ 4 := hw.2.2.2.2.1 _
theorem ov_4_le (j : Nat) : ov_4 j ≤ 4 := Nat.le_refl 4
theorem ov_b_XY {e : ov_E} (hw : ov_W e) {pb : Nat → Bool} (j : Nat) : ov_b e pb (ov_hc e) j ≤ ov_b e pb ov_4 j := by
  have := ov_hc_le hw j
  have h4 : ov_4 j = 4 := rfl
  unfold ov_b
  repeat' split
  all_goals omega
theorem ov_b_app {e : ov_E} {pb : Nat → Bool} {j : Nat} (h : ov_b e pb (ov_hc e) j < ov_b e pb ov_4 j) : j < 12 ∧ pb j = true ∧ ov_kd e j = 3 := by
  unfold ov_b at h
  by_cases h1 : j < 12
  · rw [if_pos h1, if_pos h1] at h
    by_cases h2 : pb j = true
    · rw [if_pos h2, if_pos h2] at h
      by_cases h3 : ov_kd e j = 0
      · rw [if_pos h3, if_pos h3] at h; omega
      · rw [if_neg h3, if_neg h3] at h
        by_cases h4 : ov_kd e j = 3
        · exact ⟨h1, h2, h4⟩
        · rw [if_neg h4, if_neg h4] at h; omega
    · rw [if_neg h2, if_neg h2] at h; omega
  · rw [if_neg h1, if_neg h1] at h; omega
theorem ov_b_0 {e : ov_E} {pb : Nat → Bool} {a : Nat → Nat} {n : Nat} (h : n < 12) (hb : pb n = true) (hk : ov_kd e n = 0) : ov_b e pb a n = 3 := by
  unfold ov_b; rw [if_pos h, if_pos hb, if_pos hk]
theorem ov_b_3 {e : ov_E} {pb : Nat → Bool} {a : Nat → Nat} {n : Nat} (h : n < 12) (hb : pb n = true) (hk : ov_kd e n = 3) : ov_b e pb a n = a n := by
  unfold ov_b; rw [if_pos h, if_pos hb, if_neg (by omega), if_pos hk]
theorem ov_b_1 {e : ov_E} {pb : Nat → Bool} {a : Nat → Nat} {n : Nat} (h : n < 12) (hc : pb n = true → ov_kd e n = 1 ∨ ov_kd e n = 2) : ov_b e pb a n = 1 := by
  unfold ov_b; rw [if_pos h]
  by_cases hb : pb n = true
  · have := hc hb
    rw [if_pos hb, if_neg (by omega), if_neg (by omega)]
  · rw [if_neg hb]
theorem ov_b_v {e : ov_E} {pb : Nat → Bool} {a : Nat → Nat} {v : Nat} : ov_b e pb a (12 + v) = if ov_nm e pb v 12 = true then 3 else 1 := by
  unfold ov_b; rw [if_neg (by omega), show 12 + v - 12 = v by omega]
/-- the ranges of digits -/
def ov_D (e : ov_E) (pb : Nat → Bool) (d : Nat → Nat) : Prop := ∀ n, pb n = true → (ov_kd e n = 0 → d n < 3) ∧ (ov_kd e n = 1 → d (12 + ov_ct e n) < 3) ∧ (ov_kd e n = 3 → d n < 4)
theorem ov_D_of {e : ov_E} (hw : ov_W e) {pb : Nat → Bool} {node : Nat} (hp : ov_P1 e pb node) {a : Nat → Nat} (ha : ∀ j, a j ≤ 4) {d : Nat → Nat} (h : ∀ j, j < 14 → d j < ov_b e pb a j) : ov_D e pb d := by
  intro n hn
  have h1 := hp.2.1 n hn
  have h2 := hp.1
  have h3 := hw.1
  have hN := hw.2.2.2.2.2.2.2.2.1 n (by omega)
  refine ⟨fun hk => ?_, fun hk => ?_, fun hk => ?_⟩
  · have := h n (by omega)
    rw [ov_b_0 (by omega) hn hk] at this; exact this
  · have := h (12 + ov_ct e n) (by have := hN.2.1 hk; omega)
    rw [ov_b_v, if_pos (ov_nm_of hn hk 12 (by omega))] at this; exact this
  · have := h n (by omega)
    rw [ov_b_3 (by omega) hn hk] at this
    have := ha n; omega
theorem ov_ty_3 {e : ov_E} (hw : ov_W e) {pb : Nat → Bool} {node : Nat} (hp : ov_P1 e pb node) {d : Nat → Nat} (hd : ov_D e pb d) {n : Nat} (hn : pb n = true) : ov_ty e d n < 3 := by
  have h1 := hp.2.1 n hn
  have h2 := hp.1
  have hN := hw.2.2.2.2.2.2.2.2.1 n (by omega)
  have h3 := hd n hn
  unfold ov_ty
  by_cases k0 : ov_kd e n = 0
  · rw [if_pos k0]; exact h3.1 k0
  · rw [if_neg k0]
    by_cases k1 : ov_kd e n = 1
    · rw [if_pos k1]; exact h3.2.1 k1
    · rw [if_neg k1]
      by_cases k2 : ov_kd e n = 2
      · rw [if_pos k2]; exact hN.2.2.1 k2
      · rw [if_neg k2]; omega
/-! one way's entry -/
abbrev ov_T : Type := Nat × Nat × (Nat → Nat) × (Nat → Nat)
def ov_en (e : ov_E) (pb : Nat → Bool) (node wanted : Nat) (d : Nat → Nat) (t : ov_T) : ov_T := match ov_co e pb node wanted d with
  | none => t
  | some c => (t.1 + 1, if t.1 = 0 ∨ c < t.2.1 then c else t.2.1, if t.1 = 0 ∨ c < t.2.1 then d else t.2.2.1, ov_u t.2.2.2 c (t.2.2.2 c + 1))
theorem ov_en_n {e : ov_E} {pb : Nat → Bool} {node wanted : Nat} {d : Nat → Nat} (h : ov_co e pb node wanted d = none) (t : ov_T) : ov_en e pb node wanted d t = t := by
  unfold ov_en; rw [h]
theorem ov_en_s {e : ov_E} {pb : Nat → Bool} {node wanted c : Nat} {d : Nat → Nat} (h : ov_co e pb node wanted d = some c) (t : ov_T) : ov_en e pb node wanted d t = (t.1 + 1, if t.1 = 0 ∨ c < t.2.1 then c else t.2.1, if t.1 = 0 ∨ c < t.2.1 then d else t.2.2.1, ov_u t.2.2.2 c (t.2.2.2 c + 1)) := by
  unfold ov_en; rw [h]
def ov_TI (e : ov_E) (pb : Nat → Bool) (node wanted : Nat) (n : Nat) (t : ov_T) : Prop := t.1 ≤ n ∧ (∀ c, t.2.2.2 c ≤ t.1) ∧ (t.1 = 0 → ∀ c, t.2.2.2 c = 0) ∧ (t.1 ≠ 0 → t.2.1 < 127 ∧ 1 ≤ t.2.2.2 t.2.1 ∧ (∀ c, c < t.2.1 → t.2.2.2 c = 0) ∧ ov_co e pb node wanted t.2.2.1 = some t.2.1)
theorem ov_TI_s {e : ov_E} (hw : ov_W e) {pb : Nat → Bool} {node wanted : Nat} (hp : ov_P1 e pb node) {n : Nat} {t : ov_T} {d : Nat → Nat} (h : ov_TI e pb node wanted n t) : ov_TI e pb node wanted (n + 1) (ov_en e pb node wanted d t) := by
  obtain ⟨sz, lw, bd, hh⟩ := t
  obtain ⟨h1, h2, h3, h4⟩ := h
  dsimp only at h1 h2 h3 h4
  cases hc : ov_co e pb node wanted d with
  | none =>
    rw [ov_en_n hc]
    exact ⟨by dsimp only; omega, h2, h3, h4⟩
  | some c =>
    rw [ov_en_s hc]
    have hc127 := ov_co_le hw hp hc
    dsimp only
    refine ⟨by dsimp only; omega, fun x => ?_, fun z => by dsimp only at z; omega, fun _ => ?_⟩
    · dsimp only
      by_cases hx : x = c
      · subst hx; rw [ov_us]; have := h2 x; omega
      · rw [ov_un hx]; have := h2 x; omega
    · dsimp only
      by_cases hl : sz = 0 ∨ c < lw
      · rw [if_pos hl, if_pos hl]
        refine ⟨hc127, by rw [ov_us]; omega, fun x hx => ?_, hc⟩
        rw [ov_un (by omega)]
        by_cases hz : sz = 0
        · exact h3 hz x
        · have := h4 hz
          exact this.2.2.1 x (by omega)
      · rw [if_neg hl, if_neg hl]
        have hz : sz ≠ 0 := fun z => hl (Or.inl z)
        obtain ⟨a1, a2, a3, a4⟩ := h4 hz
        refine ⟨a1, ?_, fun x hx => ?_, a4⟩
        · by_cases hx : lw = c
          · subst hx; rw [ov_us]; omega
          · rw [ov_un hx]; exact a2
        · rw [ov_un (by omega)]; exact a3 x hx
def ov_z : Nat → Nat := fun _ => 0
def ov_t0 : ov_T := (0, 0, ov_z, ov_z)
def ov_rn (e : ov_E) (pb : Nat → Bool) (node wanted : Nat) (b : Nat → Nat) (n : Nat) : ov_T := ov_fo (fun w => ov_en e pb node wanted (ov_rd b 14 w ov_z)) n ov_t0
theorem ov_rn_s (e : ov_E) (pb : Nat → Bool) (node wanted : Nat) (b : Nat → Nat) (n : Nat) : ov_rn e pb node wanted b (n + 1) = ov_en e pb node wanted (ov_rd b 14 n ov_z) (ov_rn e pb node wanted b n) := rfl
theorem ov_rn_TI {e : ov_E} (hw : ov_W e) {pb : Nat → Bool} {node wanted : Nat} (hp : ov_P1 e pb node) (b : Nat → Nat) : ∀ n, ov_TI e pb node wanted n (ov_rn e pb node wanted b n) := by
  intro n
  induction n with
  | zero => exact ⟨Nat.le_refl _, fun _ => Nat.le_refl _, fun _ _ => rfl, fun h => absurd rfl h⟩
  | succ n ih => rw [ov_rn_s]; exact ov_TI_s hw hp ih
theorem ov_rn_XY {e : ov_E} (hw : ov_W e) {pb : Nat → Bool} {node : Nat} (hp : ov_P1 e pb node) (wanted : Nat) : ov_rn e pb node wanted (ov_b e pb (ov_hc e)) (ov_P (ov_b e pb (ov_hc e)) 14) = ov_rn e pb node wanted (ov_b e pb ov_4) (ov_P (ov_b e pb ov_4) 14) := by
  unfold ov_rn
  refine ov_main (ov_en e pb node wanted) _ _ (ov_b_XY hw) (fun j d h1 h2 t => ?_) 14 ov_z ov_t0
  obtain ⟨hj, hb, hk⟩ := ov_b_app (Nat.lt_of_le_of_lt h1 h2)
  rw [ov_b_3 hj hb hk] at h1
  cases hc : ov_co e pb node wanted d with
  | none => exact ov_en_n hc t
  | some c =>
    have := (ov_co_G hw hp hc j hb).1
    unfold ov_g1 at this
    rw [if_neg (by omega), if_pos hk] at this
    have := of_decide_eq_true this
    unfold ov_hc at h1
    omega
theorem ov_rd_lt {b : Nat → Nat} {w : Nat} (hw : w < ov_P b 14) {j : Nat} (hj : j < 14) : ov_rd b 14 w ov_z j < b j := by
  unfold ov_rd; rw [if_pos hj]; exact ov_dg_lt hw hj
theorem ov_rd_dg {b : Nat → Nat} {w : Nat} {j : Nat} (hj : j < 14) : ov_rd b 14 w ov_z j = ov_dg b w j := if_pos hj
theorem ov_P14 {e : ov_E} {pb : Nat → Bool} {a : Nat → Nat} (ha : ∀ j, a j ≤ 4) {k : Nat} (hk : k ≤ 14) : ov_P (ov_b e pb a) k ≤ 268435456 :=
  Nat.le_trans (ov_P_le (ov_b_le ha) k) (Nat.le_trans (Nat.pow_le_pow_right (by decide) hk) (by decide))
end
section
/-! the relation; tests by naturals -/
def ov_o : Option Nat → Int32
  | none => -1
  | some c => nI c
def ov_C (f : Nat → Option Nat) : Nat → Int32 := fun i => ov_o (f i)
def ov_A (f : Nat → Nat) : Nat → Int32 := fun i => nI (f i)
def ov_s9 (e : ov_E) : Nat → Nat := fun i => ov_st e i / 9
def ov_s3 (e : ov_E) : Nat → Nat := fun i => ov_st e i / 3 % 3
def ov_s1 (e : ov_E) : Nat → Nat := fun i => ov_st e i % 3
theorem ov_A_u (f : Nat → Nat) (k x : Nat) : upd (ov_A f) k (nI x) = ov_A (ov_u f k x) := by
  funext j
  by_cases h : j = k
  · subst h; rw [pk_us]; unfold ov_A; rw [ov_us]
  · rw [pk_un h]; unfold ov_A; rw [ov_un h]
theorem ov_C_u (f : Nat → Option Nat) (k : Nat) (x : Option Nat) : upd (ov_C f) k (ov_o x) = ov_C (ov_u f k x) := by
  funext j
  by_cases h : j = k
  · subst h; rw [pk_us]; unfold ov_C; rw [ov_us]
  · rw [pk_un h]; unfold ov_C; rw [ov_un h]
theorem ov_AU {f : Nat → Nat} {n v : Nat} (h : n < 2 ^ 31) : upd (ov_A f) (nI n).toNatClampNeg (nI v) = ov_A (ov_u f n v) := by
  rw [nI_clamp h, ov_A_u]
theorem ov_AV {f : Nat → Nat} {n : Nat} (h : n < 2 ^ 31) : ov_A f (nI n).toNatClampNeg = nI (f n) := by
  rw [nI_clamp h]; rfl
theorem ov_ix3 (a b : Nat) : (3 * nI a) + nI b = nI (3 * a + b) := by
  show nI 3 * nI a + nI b = _
  rw [pk_mul, nI_add]
theorem ov_ix4 (a b : Nat) : (4 * nI a) + nI b = nI (4 * a + b) := by
  show nI 4 * nI a + nI b = _
  rw [pk_mul, nI_add]
theorem ov_ix12 (a : Nat) : 12 + nI a = nI (12 + a) := nI_add 12 a
theorem ov_m1n {j : Nat} (h : j < 2 ^ 31) : ¬ nI j = -1 := fun z => by
  have h1 := congrArg Int32.toInt z
  rw [nI_toInt h] at h1
  have h2 : (-1 : Int32).toInt = -1 := by decide
  omega
theorem ov_m1l {j : Nat} (h : j < 2 ^ 31) : ¬ nI j < -1 := by
  rw [Int32.lt_iff_toInt_lt, nI_toInt h, show (-1 : Int32).toInt = -1 from by decide]; omega
theorem ov_m1x {x : Int32} (h : x < 0) (h1 : ¬ x = -1) : x < -1 := by
  rw [Int32.lt_iff_toInt_lt] at h ⊢
  have h2 : (-1 : Int32).toInt = -1 := by decide
  have h3 : (0 : Int32).toInt = 0 := by decide
  have h4 : ¬ x.toInt = -1 := fun z => h1 (Int32.toInt_inj.mp (z.trans h2.symm))
  omega
theorem ov_lt0 {x : Int32} {a : Nat} (h : x < 0) (ha : a < 2 ^ 31) : x < nI a := by
  rw [Int32.lt_iff_toInt_lt] at h ⊢
  have h3 : (0 : Int32).toInt = 0 := by decide
  rw [nI_toInt ha]
  omega
def ov_in (a n : Nat) (x : Int32) : Prop := ∃ j : Nat, a ≤ j ∧ j < n ∧ x = nI j
theorem ov_xt {x l u : Int32} {A B C : Prop} (a n : Nat) (h : ov_in a n x) (b : B) (hl : l = nI a := by rfl) (hu : u = nI n := by rfl) (hn : n < 2 ^ 31 := by omega) : (x < l → A) ∧ (¬ x < l → ((u ≤ x → C) ∧ (¬ u ≤ x → B))) := by
  obtain ⟨j, h1, h2, rfl⟩ := h
  exact pk_lt j a (fun z => absurd z (by omega)) (fun _ => pk_le n j (fun z => absurd z (by omega)) (fun _ => b) hu rfl hn (by omega)) rfl hl (by omega) (by omega)
theorem ov_xf {x l u : Int32} {A B C : Prop} (a n : Nat) (h : ¬ ov_in a n x) (b : A) (c : C) (hl : l = nI a := by rfl) (hu : u = nI n := by rfl) (hn : n < 2 ^ 31 := by omega) (ha : a < 2 ^ 31 := by omega) : (x < l → A) ∧ (¬ x < l → ((u ≤ x → C) ∧ (¬ u ≤ x → B))) := by
  subst hl
  rcases Classical.em (x < 0) with hx | hx
  · exact br_t (ov_lt0 hx ha) b
  · obtain ⟨j, hj, rfl⟩ := nI_of hx
    exact pk_lt j a (fun _ => b) (fun z => pk_le n j (fun _ => c) (fun z' => absurd ⟨j, z, z', rfl⟩ h) hu rfl hn hj) rfl rfl hj ha
theorem ov_vt {x l u : Int32} {A B C : Prop} (a n : Nat) (h : ov_in a (n + 1) x) (b : B) (hl : l = nI a := by rfl) (hu : u = nI n := by rfl) (hn : n < 2 ^ 31 - 1 := by omega) : (x < l → A) ∧ (¬ x < l → ((u < x → C) ∧ (¬ u < x → B))) := by
  obtain ⟨j, h1, h2, rfl⟩ := h
  exact pk_lt j a (fun z => absurd z (by omega)) (fun _ => pk_lt n j (fun z => absurd z (by omega)) (fun _ => b) hu rfl (by omega) (by omega)) rfl hl (by omega) (by omega)
theorem ov_vf {x l u : Int32} {A B C : Prop} (a n : Nat) (h : ¬ ov_in a (n + 1) x) (b : A) (c : C) (hl : l = nI a := by rfl) (hu : u = nI n := by rfl) (hn : n < 2 ^ 31 - 1 := by omega) (ha : a < 2 ^ 31 := by omega) : (x < l → A) ∧ (¬ x < l → ((u < x → C) ∧ (¬ u < x → B))) := by
  subst hl
  rcases Classical.em (x < 0) with hx | hx
  · exact br_t (ov_lt0 hx ha) b
  · obtain ⟨j, hj, rfl⟩ := nI_of hx
    exact pk_lt j a (fun _ => b) (fun z => pk_lt n j (fun _ => c) (fun z' => absurd ⟨j, z, by omega, rfl⟩ h) hu rfl (by omega) hj) rfl rfl hj ha
theorem ov_yt {x l u : Int32} {A B C : Prop} (a n : Nat) (h : ov_in a (n + 1) x) (b : B) (hl : l = nI a := by rfl) (hu : u = nI n := by rfl) (hn : n < 2 ^ 31 - 1 := by omega) : (x < l → A) ∧ (¬ x < l → ((x ≤ u → B) ∧ (¬ x ≤ u → C))) := by
  obtain ⟨j, h1, h2, rfl⟩ := h
  exact pk_lt j a (fun z => absurd z (by omega)) (fun _ => pk_le j n (fun _ => b) (fun z => absurd z (by omega)) rfl hu (by omega) (by omega)) rfl hl (by omega) (by omega)
theorem ov_yf {x l u : Int32} {A B C : Prop} (a n : Nat) (h : ¬ ov_in a (n + 1) x) (b : A) (c : C) (hl : l = nI a := by rfl) (hu : u = nI n := by rfl) (hn : n < 2 ^ 31 - 1 := by omega) (ha : a < 2 ^ 31 := by omega) : (x < l → A) ∧ (¬ x < l → ((x ≤ u → B) ∧ (¬ x ≤ u → C))) := by
  subst hl
  rcases Classical.em (x < 0) with hx | hx
  · exact br_t (ov_lt0 hx ha) b
  · obtain ⟨j, hj, rfl⟩ := nI_of hx
    exact pk_lt j a (fun _ => b) (fun z => pk_le j n (fun z' => absurd ⟨j, z, by omega, rfl⟩ h) (fun _ => c) rfl hu hj (by omega)) rfl rfl hj ha
theorem ov_zt {x l u : Int32} {A B C : Prop} (a n : Nat) (h : ov_in a n x) (b : B) (hl : l = nI a := by rfl) (hu : u = nI n := by rfl) (hn : n < 2 ^ 31 := by omega) : (x < l → A) ∧ (¬ x < l → ((x < u → B) ∧ (¬ x < u → C))) := by
  obtain ⟨j, h1, h2, rfl⟩ := h
  exact pk_lt j a (fun z => absurd z (by omega)) (fun _ => pk_lt j n (fun _ => b) (fun z => absurd z (by omega)) rfl hu (by omega) (by omega)) rfl hl (by omega) (by omega)
theorem ov_zf {x l u : Int32} {A B C : Prop} (a n : Nat) (h : ¬ ov_in a n x) (b : A) (c : C) (hl : l = nI a := by rfl) (hu : u = nI n := by rfl) (hn : n < 2 ^ 31 := by omega) (ha : a < 2 ^ 31 := by omega) : (x < l → A) ∧ (¬ x < l → ((x < u → B) ∧ (¬ x < u → C))) := by
  subst hl
  rcases Classical.em (x < 0) with hx | hx
  · exact br_t (ov_lt0 hx ha) b
  · obtain ⟨j, hj, rfl⟩ := nI_of hx
    exact pk_lt j a (fun _ => b) (fun z => pk_lt j n (fun z' => absurd ⟨j, z, by omega, rfl⟩ h) (fun _ => c) rfl hu hj (by omega)) rfl rfl hj ha
theorem ov_10 : ¬ (1 : Int32) = 0 := by decide
section
variable {post : Int32 → Prop} {x : Int32}
theorem ox_isType_t (h : ov_in 0 3 x) (hp : post 1) : wpX_isType post x := ov_xt 0 3 h hp
theorem ox_isType_f (h : ¬ ov_in 0 3 x) (hp : post 0) : wpX_isType post x := ov_xf 0 3 h hp hp
theorem ox_isOperator_t (h : ov_in 0 3 x) (hp : post 1) : wpX_isOperator post x := ov_xt 0 3 h hp
theorem ox_isOperator_f (h : ¬ ov_in 0 3 x) (hp : post 0) : wpX_isOperator post x := ov_xf 0 3 h hp hp
theorem ox_isVariable_t (h : ov_in 0 2 x) (hp : post 1) : wpX_isVariable post x := ov_xt 0 2 h hp
theorem ox_isVariable_f (h : ¬ ov_in 0 2 x) (hp : post 0) : wpX_isVariable post x := ov_xf 0 2 h hp hp
theorem ox_isCost_t (h : ov_in 0 10 x) (hp : post 1) : wpX_isCost post x := ov_vt 0 9 h hp
theorem ox_isCost_f (h : ¬ ov_in 0 10 x) (hp : post 0) : wpX_isCost post x := ov_vf 0 9 h hp hp
theorem ox_isSet_t (h : ov_in 1 8 x) (hp : post 1) : wpX_isSet post x := ov_vt 1 7 h hp
theorem ox_isSet_f (h : ¬ ov_in 1 8 x) (hp : post 0) : wpX_isSet post x := ov_vf 1 7 h hp hp
variable {u : SY}
theorem oy_badType_t (h : ov_in 0 3 x) (hp : post 0) : wpY_badType post u x := ov_yt 0 2 h hp
theorem oy_badType_f (h : ¬ ov_in 0 3 x) (hp : post 1) : wpY_badType post u x := ov_yf 0 2 h hp hp
theorem oy_badOp_t (h : ov_in 0 3 x) (hp : post 0) : wpY_badOp post u x := ov_yt 0 2 h hp
theorem oy_badOp_f (h : ¬ ov_in 0 3 x) (hp : post 1) : wpY_badOp post u x := ov_yf 0 2 h hp hp
theorem oy_badCost_t (h : ov_in 0 10 x) (hp : post 0) : wpY_badCost post u x := ov_yt 0 9 h hp
theorem oy_badCost_f (h : ¬ ov_in 0 10 x) (hp : post 1) : wpY_badCost post u x := ov_yf 0 9 h hp hp
end
/-- the two hold the same tables and the same nodes -/
def i_Rel (_ : Nat) (u : SX) (v : SY) : Prop := ∃ (e : ov_E) (tk pt op ch ty hs bc bt yq yr pa pq pv yt : Nat → Int32) (so lo to fi le be bo sa : Int32), u = (nI (ov_nc e), nI (ov_ac e), so, lo, ov_C (ov_cv e), ov_A (ov_st e), ov_A (ov_sc e), ov_A (ov_hd e), ov_A (ov_vs e), ov_A (ov_lt e), ov_A (ov_kd e), ov_A (ov_ct e), ov_A (ov_lf e), ov_A (ov_rt e), tk, pt, op, ch, ty, hs, bc, bt) ∧ v = (nI (ov_nc e), to, fi, le, be, bo, sa, ov_C (ov_cv e), ov_A (ov_hd e), ov_A (ov_s9 e), ov_A (ov_s3 e), ov_A (ov_s1 e), ov_A (ov_sc e), ov_A (ov_vs e), ov_A (ov_lt e), ov_A (ov_kd e), ov_A (ov_ct e), yq, yr, tk, pa, pq, pv, yt) ∧ ov_W e ∧ (∀ n, n < ov_nc e → ov_kd e n = 3 → yq n = nI (ov_lf e n) ∧ yr n = nI (ov_rt e n))
theorem i_up {k : Nat} {u : SX} {v : SY} (h : i_Rel k u v) : i_Rel (k + 4) u v := h
section
variable {e : ov_E} {tk pt op ch ty hs bc bt yq yr pa pq pv yt : Nat → Int32} {so lo to fi le be bo sa : Int32}
theorem ov_mkR {k : Nat} (hw : ov_W e) (hq : ∀ n, n < ov_nc e → ov_kd e n = 3 → yq n = nI (ov_lf e n) ∧ yr n = nI (ov_rt e n)) : i_Rel k (nI (ov_nc e), nI (ov_ac e), so, lo, ov_C (ov_cv e), ov_A (ov_st e), ov_A (ov_sc e), ov_A (ov_hd e), ov_A (ov_vs e), ov_A (ov_lt e), ov_A (ov_kd e), ov_A (ov_ct e), ov_A (ov_lf e), ov_A (ov_rt e), tk, pt, op, ch, ty, hs, bc, bt) (nI (ov_nc e), to, fi, le, be, bo, sa, ov_C (ov_cv e), ov_A (ov_hd e), ov_A (ov_s9 e), ov_A (ov_s3 e), ov_A (ov_s1 e), ov_A (ov_sc e), ov_A (ov_vs e), ov_A (ov_lt e), ov_A (ov_kd e), ov_A (ov_ct e), yq, yr, tk, pa, pq, pv, yt) :=
  ⟨e, tk, pt, op, ch, ty, hs, bc, bt, yq, yr, pa, pq, pv, yt, so, lo, to, fi, le, be, bo, sa, rfl, rfl, hw, hq⟩
theorem ox_isNode_t {post : Int32 → Prop} {x : Int32} (hw : ov_W e) (h : ov_in 0 (ov_nc e) x) (hp : post 1) : wpX_isNode post (nI (ov_nc e), nI (ov_ac e), so, lo, ov_C (ov_cv e), ov_A (ov_st e), ov_A (ov_sc e), ov_A (ov_hd e), ov_A (ov_vs e), ov_A (ov_lt e), ov_A (ov_kd e), ov_A (ov_ct e), ov_A (ov_lf e), ov_A (ov_rt e), tk, pt, op, ch, ty, hs, bc, bt) x := ov_xt 0 (ov_nc e) h hp rfl rfl (by have := hw.1; omega)
theorem ox_isNode_f {post : Int32 → Prop} {x : Int32} (hw : ov_W e) (h : ¬ ov_in 0 (ov_nc e) x) (hp : post 0) : wpX_isNode post (nI (ov_nc e), nI (ov_ac e), so, lo, ov_C (ov_cv e), ov_A (ov_st e), ov_A (ov_sc e), ov_A (ov_hd e), ov_A (ov_vs e), ov_A (ov_lt e), ov_A (ov_kd e), ov_A (ov_ct e), ov_A (ov_lf e), ov_A (ov_rt e), tk, pt, op, ch, ty, hs, bc, bt) x := ov_xf 0 (ov_nc e) h hp hp rfl rfl (by have := hw.1; omega)
theorem oy_badNode_t {post : Int32 → Prop} {x : Int32} (hw : ov_W e) (h : ov_in 0 (ov_nc e) x) (hp : post 0) : wpY_badNode post (nI (ov_nc e), to, fi, le, be, bo, sa, ov_C (ov_cv e), ov_A (ov_hd e), ov_A (ov_s9 e), ov_A (ov_s3 e), ov_A (ov_s1 e), ov_A (ov_sc e), ov_A (ov_vs e), ov_A (ov_lt e), ov_A (ov_kd e), ov_A (ov_ct e), yq, yr, tk, pa, pq, pv, yt) x := by
  have h12 := hw.1
  refine ov_xt 0 (ov_nc e) h ?_ rfl rfl (by omega)
  obtain ⟨j, h1, h2, rfl⟩ := h
  exact pk_lt j 12 (fun _ => hp) (fun z => absurd z (by omega))
theorem oy_badNode_f {post : Int32 → Prop} {x : Int32} (hw : ov_W e) (h : ¬ ov_in 0 (ov_nc e) x) (hp : post 1) : wpY_badNode post (nI (ov_nc e), to, fi, le, be, bo, sa, ov_C (ov_cv e), ov_A (ov_hd e), ov_A (ov_s9 e), ov_A (ov_s3 e), ov_A (ov_s1 e), ov_A (ov_sc e), ov_A (ov_vs e), ov_A (ov_lt e), ov_A (ov_kd e), ov_A (ov_ct e), yq, yr, tk, pa, pq, pv, yt) x := ov_xf 0 (ov_nc e) h hp hp rfl rfl (by have := hw.1; omega)
end
end
section
theorem ov_mkO {x : Int32} (h : ov_in 0 10 x) : ∃ c, c ≤ 9 ∧ x = ov_o (some c) := by
  obtain ⟨j, _, hj, rfl⟩ := h
  exact ⟨j, by omega, rfl⟩
section
variable {e : ov_E} {tk pt op ch ty hs bc bt yq yr pa pq pv yt : Nat → Int32} {so lo to fi le be bo sa : Int32}
theorem ox_convert_39 {post : Int32 → SX → Prop} {a b : Nat} {oc : Option Nat} (ha : a < 3) (hb : b < 3) (hp : post 0 (nI (ov_nc e), nI (ov_ac e), so, lo, ov_C (ov_u (ov_cv e) (3 * a + b) oc), ov_A (ov_st e), ov_A (ov_sc e), ov_A (ov_hd e), ov_A (ov_vs e), ov_A (ov_lt e), ov_A (ov_kd e), ov_A (ov_ct e), ov_A (ov_lf e), ov_A (ov_rt e), tk, pt, op, ch, ty, hs, bc, bt)) : wX_convert_39 post (nI a) (nI b) (ov_o oc) (nI (ov_nc e)) (nI (ov_ac e)) so lo (ov_C (ov_cv e)) (ov_A (ov_st e)) (ov_A (ov_sc e)) (ov_A (ov_hd e)) (ov_A (ov_vs e)) (ov_A (ov_lt e)) (ov_A (ov_kd e)) (ov_A (ov_ct e)) (ov_A (ov_lf e)) (ov_A (ov_rt e)) tk pt op ch ty hs bc bt := by
  refine ⟨?_, nm_r ?_ hp⟩
  · rw [ov_ix3]; exact vp_in_nI (by omega) (by omega)
  · rw [ov_ix3, nI_clamp (by omega), ov_C_u]
end
theorem i_vc_convert {k : Nat} {u : SX} {v : SY} (I : i_Rel k u v) (hk : k + 4 ≤ 2048) (v1 : Int32) (v2 : Int32) (v3 : Int32) : wpX_convert (fun r u' => wpY_convert (fun r' v' => r' = r ∧ i_Rel (k + 4) u' v') v v1 v2 v3) u v1 v2 v3 := by
  obtain ⟨e, tk, pt, op, ch, ty, hs, bc, bt, yq, yr, pa, pq, pv, yt, so, lo, to, fi, le, be, bo, sa, rfl, rfl, hw, hq⟩ := I
  have R0 : i_Rel (k + 4) (nI (ov_nc e), nI (ov_ac e), so, lo, ov_C (ov_cv e), ov_A (ov_st e), ov_A (ov_sc e), ov_A (ov_hd e), ov_A (ov_vs e), ov_A (ov_lt e), ov_A (ov_kd e), ov_A (ov_ct e), ov_A (ov_lf e), ov_A (ov_rt e), tk, pt, op, ch, ty, hs, bc, bt) (nI (ov_nc e), to, fi, le, be, bo, sa, ov_C (ov_cv e), ov_A (ov_hd e), ov_A (ov_s9 e), ov_A (ov_s3 e), ov_A (ov_s1 e), ov_A (ov_sc e), ov_A (ov_vs e), ov_A (ov_lt e), ov_A (ov_kd e), ov_A (ov_ct e), yq, yr, tk, pa, pq, pv, yt) := ov_mkR hw hq
  unfold wpX_convert wpY_convert
  dsimp only
  by_cases h1 : ov_in 0 3 v1
  · refine ox_isType_t h1 (br_f ov_10 ?_)
    by_cases h2 : ov_in 0 3 v2
    · refine ox_isType_t h2 (br_f ov_10 ?_)
      by_cases h3 : v1 = v2
      · exact br_t h3 (oy_badType_t h1 (br_t rfl (oy_badType_t h2 (br_t rfl (br_t h3 ⟨rfl, R0⟩)))))
      · refine br_f h3 ?_
        have key : ∀ oc : Option Nat, v3 = ov_o oc → (∀ c, oc = some c → c ≤ 9) → wX_convert_39 (fun r u' => wpY_badType (fun r_1 => (r_1 = 0 → wpY_badType (fun r_27 => (r_27 = 0 → (v1 = v2 → (-2 = r ∧ i_Rel (k + 4) u' (nI (ov_nc e), to, fi, le, be, bo, sa, ov_C (ov_cv e), ov_A (ov_hd e), ov_A (ov_s9 e), ov_A (ov_s3 e), ov_A (ov_s1 e), ov_A (ov_sc e), ov_A (ov_vs e), ov_A (ov_lt e), ov_A (ov_kd e), ov_A (ov_ct e), yq, yr, tk, pa, pq, pv, yt))) ∧ (¬ v1 = v2 → (v3 < -1 → (-3 = r ∧ i_Rel (k + 4) u' (nI (ov_nc e), to, fi, le, be, bo, sa, ov_C (ov_cv e), ov_A (ov_hd e), ov_A (ov_s9 e), ov_A (ov_s3 e), ov_A (ov_s1 e), ov_A (ov_sc e), ov_A (ov_vs e), ov_A (ov_lt e), ov_A (ov_kd e), ov_A (ov_ct e), yq, yr, tk, pa, pq, pv, yt))) ∧ (¬ v3 < -1 → (v3 ≤ 9 → vp_in (3 * v1 + v2) 9 ∧ ∀ a_conversion_57, a_conversion_57 = upd (ov_C (ov_cv e)) (3 * v1 + v2).toNatClampNeg v3 → (0 = r ∧ i_Rel (k + 4) u' (nI (ov_nc e), to, fi, le, be, bo, sa, a_conversion_57, ov_A (ov_hd e), ov_A (ov_s9 e), ov_A (ov_s3 e), ov_A (ov_s1 e), ov_A (ov_sc e), ov_A (ov_vs e), ov_A (ov_lt e), ov_A (ov_kd e), ov_A (ov_ct e), yq, yr, tk, pa, pq, pv, yt))) ∧ (¬ v3 ≤ 9 → (-3 = r ∧ i_Rel (k + 4) u' (nI (ov_nc e), to, fi, le, be, bo, sa, ov_C (ov_cv e), ov_A (ov_hd e), ov_A (ov_s9 e), ov_A (ov_s3 e), ov_A (ov_s1 e), ov_A (ov_sc e), ov_A (ov_vs e), ov_A (ov_lt e), ov_A (ov_kd e), ov_A (ov_ct e), yq, yr, tk, pa, pq, pv, yt)))))) ∧ (¬ r_27 = 0 → (-1 = r ∧ i_Rel (k + 4) u' (nI (ov_nc e), to, fi, le, be, bo, sa, ov_C (ov_cv e), ov_A (ov_hd e), ov_A (ov_s9 e), ov_A (ov_s3 e), ov_A (ov_s1 e), ov_A (ov_sc e), ov_A (ov_vs e), ov_A (ov_lt e), ov_A (ov_kd e), ov_A (ov_ct e), yq, yr, tk, pa, pq, pv, yt)))) (nI (ov_nc e), to, fi, le, be, bo, sa, ov_C (ov_cv e), ov_A (ov_hd e), ov_A (ov_s9 e), ov_A (ov_s3 e), ov_A (ov_s1 e), ov_A (ov_sc e), ov_A (ov_vs e), ov_A (ov_lt e), ov_A (ov_kd e), ov_A (ov_ct e), yq, yr, tk, pa, pq, pv, yt) v2) ∧ (¬ r_1 = 0 → (-1 = r ∧ i_Rel (k + 4) u' (nI (ov_nc e), to, fi, le, be, bo, sa, ov_C (ov_cv e), ov_A (ov_hd e), ov_A (ov_s9 e), ov_A (ov_s3 e), ov_A (ov_s1 e), ov_A (ov_sc e), ov_A (ov_vs e), ov_A (ov_lt e), ov_A (ov_kd e), ov_A (ov_ct e), yq, yr, tk, pa, pq, pv, yt)))) (nI (ov_nc e), to, fi, le, be, bo, sa, ov_C (ov_cv e), ov_A (ov_hd e), ov_A (ov_s9 e), ov_A (ov_s3 e), ov_A (ov_s1 e), ov_A (ov_sc e), ov_A (ov_vs e), ov_A (ov_lt e), ov_A (ov_kd e), ov_A (ov_ct e), yq, yr, tk, pa, pq, pv, yt) v1) v1 v2 v3 (nI (ov_nc e)) (nI (ov_ac e)) so lo (ov_C (ov_cv e)) (ov_A (ov_st e)) (ov_A (ov_sc e)) (ov_A (ov_hd e)) (ov_A (ov_vs e)) (ov_A (ov_lt e)) (ov_A (ov_kd e)) (ov_A (ov_ct e)) (ov_A (ov_lf e)) (ov_A (ov_rt e)) tk pt op ch ty hs bc bt := by
          intro oc hoc hle
          obtain ⟨a, _, ha, rfl⟩ := h1
          obtain ⟨b, _, hb, rfl⟩ := h2
          subst hoc
          refine ox_convert_39 ha hb ?_
          refine oy_badType_t ⟨a, Nat.zero_le _, ha, rfl⟩ (br_t rfl (oy_badType_t ⟨b, Nat.zero_le _, hb, rfl⟩ (br_t rfl (br_f h3 ?_))))
          have hY : vp_in (3 * nI a + nI b) 9 ∧ ∀ a_conversion_57, a_conversion_57 = upd (ov_C (ov_cv e)) (3 * nI a + nI b).toNatClampNeg (ov_o oc) → ((0 : Int32) = 0 ∧ i_Rel (k + 4) (nI (ov_nc e), nI (ov_ac e), so, lo, ov_C (ov_u (ov_cv e) (3 * a + b) oc), ov_A (ov_st e), ov_A (ov_sc e), ov_A (ov_hd e), ov_A (ov_vs e), ov_A (ov_lt e), ov_A (ov_kd e), ov_A (ov_ct e), ov_A (ov_lf e), ov_A (ov_rt e), tk, pt, op, ch, ty, hs, bc, bt) (nI (ov_nc e), to, fi, le, be, bo, sa, a_conversion_57, ov_A (ov_hd e), ov_A (ov_s9 e), ov_A (ov_s3 e), ov_A (ov_s1 e), ov_A (ov_sc e), ov_A (ov_vs e), ov_A (ov_lt e), ov_A (ov_kd e), ov_A (ov_ct e), yq, yr, tk, pa, pq, pv, yt)) := by
            refine ⟨?_, nm_r (e' := ov_C (ov_u (ov_cv e) (3 * a + b) oc)) ?_ ⟨rfl, ?_⟩⟩
            · rw [ov_ix3]; exact vp_in_nI (by omega) (by omega)
            · rw [ov_ix3, nI_clamp (by omega), ov_C_u]
            · refine ov_mkR (e := (ov_nc e, ov_u (ov_cv e) (3 * a + b) oc, e.2.2)) ⟨hw.1, fun i c h => ?_, hw.2.2⟩ hq
              by_cases hi : i = 3 * a + b
              · subst hi
                exact hle c (ov_us.symm.trans h)
              · exact hw.2.1 i c ((ov_un hi).symm.trans h)
          cases oc with
          | none => exact br_f (by decide) (br_t (by decide) hY)
          | some c =>
            have := hle c rfl
            exact br_f (ov_m1l (by omega)) (pk_le c 9 (fun _ => hY) (fun z => absurd z (by omega)))
        by_cases h4 : v3 = -1
        · exact br_t h4 (key none h4 (fun c h => nomatch h))
        · refine br_f h4 ?_
          by_cases h5 : ov_in 0 10 v3
          · obtain ⟨c, hc, hv⟩ := ov_mkO h5
            exact ox_isCost_t h5 (br_f ov_10 (key (some c) hv (fun c' h => by have := Option.some.inj h; omega)))
          · refine ox_isCost_f h5 (br_t rfl (oy_badType_t h1 (br_t rfl (oy_badType_t h2 (br_t rfl (br_f h3 ?_))))))
            rcases Classical.em (v3 < 0) with hx | hx
            · exact br_t (ov_m1x hx h4) ⟨rfl, R0⟩
            · obtain ⟨j, hj, rfl⟩ := nI_of hx
              exact br_f (ov_m1l hj) (pk_le j 9 (fun z => absurd ⟨j, Nat.zero_le _, by omega, rfl⟩ h5) (fun _ => ⟨rfl, R0⟩))
    · exact ox_isType_f h2 (br_t rfl (oy_badType_t h1 (br_t rfl (oy_badType_f h2 (br_f ov_10 ⟨rfl, R0⟩)))))
  · exact ox_isType_f h1 (br_t rfl (oy_badType_f h1 (br_f ov_10 ⟨rfl, R0⟩)))
theorem ov_div9 {p : Nat} (h : p < 2 ^ 31) : nI p / 9 = nI (p / 9) := pk_div (d := 9) h (by omega) (by omega)
theorem ov_rem3 {p : Nat} (h : p < 2 ^ 31) : nI p - nI p / 3 * 3 = nI (p % 3) := pk_rem (d := 3) h (by omega) (by omega)
theorem ov_div3 {p : Nat} (h : p < 2 ^ 31) : nI p / 3 = nI (p / 3) := pk_div (d := 3) h (by omega) (by omega)
theorem ov_rem4 {p : Nat} (h : p < 2 ^ 31) : nI p - nI p / 4 * 4 = nI (p % 4) := pk_rem (d := 4) h (by omega) (by omega)
theorem ov_div4 {p : Nat} (h : p < 2 ^ 31) : nI p / 4 = nI (p / 4) := pk_div (d := 4) h (by omega) (by omega)
theorem ov_rem33 {p : Nat} (h : p < 2 ^ 31) : (nI p / 3) - (nI p / 3) / 3 * 3 = nI (p / 3 % 3) := by
  rw [ov_div3 h]
  exact pk_rem (d := 3) (by omega) (by omega) (by omega)
theorem ov_u_map {f : Nat → Nat} {k x : Nat} (g : Nat → Nat) : ov_u (fun i => g (f i)) k (g x) = fun i => g (ov_u f k x i) := by
  funext i
  by_cases h : i = k
  · subst h; rw [ov_us, ov_us]
  · rw [ov_un h, ov_un h]
theorem ov_u_all {p : Nat → Prop} {f : Nat → Nat} {k x : Nat} (h : ∀ i, p (f i)) (hx : p x) (i : Nat) : p (ov_u f k x i) := by
  by_cases hi : i = k
  · subst hi; rw [ov_us]; exact hx
  · rw [ov_un hi]; exact h i
theorem ov_93 : ¬ (9 : Int32) = 0 := by decide
theorem ov_33 : ¬ (3 : Int32) = 0 := by decide
theorem ov_43 : ¬ (4 : Int32) = 0 := by decide
theorem i_vc_overload {k : Nat} {u : SX} {v : SY} (I : i_Rel k u v) (hk : k + 4 ≤ 2048) (v1 : Int32) (v2 : Int32) (v3 : Int32) : wpX_overload (fun r u' => wpY_overload (fun r' v' => r' = r ∧ i_Rel (k + 4) u' v') v v1 v2 v3) u v1 v2 v3 := by
  obtain ⟨e, tk, pt, op, ch, ty, hs, bc, bt, yq, yr, pa, pq, pv, yt, so, lo, to, fi, le, be, bo, sa, rfl, rfl, hw, hq⟩ := I
  have R0 : i_Rel (k + 4) (nI (ov_nc e), nI (ov_ac e), so, lo, ov_C (ov_cv e), ov_A (ov_st e), ov_A (ov_sc e), ov_A (ov_hd e), ov_A (ov_vs e), ov_A (ov_lt e), ov_A (ov_kd e), ov_A (ov_ct e), ov_A (ov_lf e), ov_A (ov_rt e), tk, pt, op, ch, ty, hs, bc, bt) (nI (ov_nc e), to, fi, le, be, bo, sa, ov_C (ov_cv e), ov_A (ov_hd e), ov_A (ov_s9 e), ov_A (ov_s3 e), ov_A (ov_s1 e), ov_A (ov_sc e), ov_A (ov_vs e), ov_A (ov_lt e), ov_A (ov_kd e), ov_A (ov_ct e), yq, yr, tk, pa, pq, pv, yt) := ov_mkR hw hq
  unfold wpX_overload wpY_overload
  dsimp only
  by_cases h1 : ov_in 0 3 v1
  · refine ox_isOperator_t h1 (br_f ov_10 ?_)
    by_cases h2 : ov_in 0 27 v2
    · refine ov_zt 0 27 h2 ?_
      by_cases h3 : ov_in 0 10 v3
      · refine ox_isCost_t h3 (br_f ov_10 ?_)
        have h1' := h1
        have h2' := h2
        have h3' := h3
        obtain ⟨a, _, ha, rfl⟩ := h1
        obtain ⟨p, _, hp, rfl⟩ := h2
        obtain ⟨c, _, hc, rfl⟩ := h3
        have hh := hw.2.2.2.2.1 a
        have hi : vp_in (nI a) 3 := vp_in_nI ha (by omega)
        refine ⟨hi, pk_lt (ov_hd e a) 4 (fun h4 => ?_) (fun h4 => ?_) (ov_AV (by omega)) rfl (by omega) (by omega)⟩
        · have hj : vp_in (nI (4 * a + ov_hd e a)) 12 := vp_in_nI (by omega) (by omega)
          refine ⟨hi, nm_r (e' := nI (4 * a + ov_hd e a)) (by rw [ov_AV (by omega), ov_ix4]) ?_⟩
          refine ⟨hj, nm_r (ov_AU (by omega)) ⟨hj, nm_r (ov_AU (by omega)) ⟨hi, hi, nm_r (e' := ov_A (ov_u (ov_hd e) a (ov_hd e a + 1))) (by rw [ov_AV (by omega), nI_1, ov_AU (by omega)]) ⟨hi, ?_⟩⟩⟩⟩
          refine oy_badOp_t h1' (br_t rfl (ov_yt 0 26 h2' (oy_badCost_t h3' (br_t rfl ⟨hi, pk_lt (ov_hd e a) 4 (fun _ => ?_) (fun z => absurd z (by omega)) (ov_AV (by omega)) rfl (by omega) (by omega)⟩))))
          refine ⟨hi, nm_r (e' := nI (4 * a + ov_hd e a)) (by rw [ov_AV (by omega), ov_ix4]) ?_⟩
          refine ⟨ov_93, hj, nm_r (e' := ov_A (ov_u (ov_s9 e) (4 * a + ov_hd e a) (p / 9))) (by rw [ov_div9 (by omega), ov_AU (by omega)]) ?_⟩
          refine ⟨ov_33, ov_33, hj, nm_r (e' := ov_A (ov_u (ov_s3 e) (4 * a + ov_hd e a) (p / 3 % 3))) (by rw [ov_rem33 (by omega), ov_AU (by omega)]) ?_⟩
          refine ⟨ov_33, hj, nm_r (e' := ov_A (ov_u (ov_s1 e) (4 * a + ov_hd e a) (p % 3))) (by rw [ov_rem3 (by omega), ov_AU (by omega)]) ?_⟩
          refine ⟨hj, nm_r (ov_AU (by omega)) ⟨hi, hi, nm_r (e' := ov_A (ov_u (ov_hd e) a (ov_hd e a + 1))) (by rw [ov_AV (by omega), nI_1, ov_AU (by omega)]) ⟨hi, rfl, ?_⟩⟩⟩
          have e9 : ov_u (ov_s9 e) (4 * a + ov_hd e a) (p / 9) = fun i => ov_u (ov_st e) (4 * a + ov_hd e a) p i / 9 := ov_u_map (fun x => x / 9)
          have e3 : ov_u (ov_s3 e) (4 * a + ov_hd e a) (p / 3 % 3) = fun i => ov_u (ov_st e) (4 * a + ov_hd e a) p i / 3 % 3 := ov_u_map (fun x => x / 3 % 3)
          have e1 : ov_u (ov_s1 e) (4 * a + ov_hd e a) (p % 3) = fun i => ov_u (ov_st e) (4 * a + ov_hd e a) p i % 3 := ov_u_map (fun x => x % 3)
          rw [e9, e3, e1]
          refine ov_mkR (e := (ov_nc e, ov_cv e, ov_u (ov_st e) (4 * a + ov_hd e a) p, ov_u (ov_sc e) (4 * a + ov_hd e a) c, ov_u (ov_hd e) a (ov_hd e a + 1), e.2.2.2.2.2)) ⟨hw.1, hw.2.1, ?_, ?_, ?_, hw.2.2.2.2.2⟩ hq
          · exact ov_u_all (p := fun x => x < 27) hw.2.2.1 hp
          · exact ov_u_all (p := fun x => x ≤ 9) hw.2.2.2.1 (by omega)
          · exact ov_u_all (p := fun x => x ≤ 4) hw.2.2.2.2.1 (by omega)
        · exact oy_badOp_t h1' (br_t rfl (ov_yt 0 26 h2' (oy_badCost_t h3' (br_t rfl ⟨hi, pk_lt (ov_hd e a) 4 (fun z => absurd z (by omega)) (fun _ => ⟨rfl, R0⟩) (ov_AV (by omega)) rfl (by omega) (by omega)⟩))))
      · exact ox_isCost_f h3 (br_t rfl (oy_badOp_t h1 (br_t rfl (ov_yt 0 26 h2 (oy_badCost_f h3 (br_f ov_10 ⟨rfl, R0⟩))))))
    · refine ov_zf 0 27 h2 ?_ ?_
      · exact oy_badOp_t h1 (br_t rfl (ov_yf 0 26 h2 ⟨rfl, R0⟩ ⟨rfl, R0⟩))
      · exact oy_badOp_t h1 (br_t rfl (ov_yf 0 26 h2 ⟨rfl, R0⟩ ⟨rfl, R0⟩))
  · exact ox_isOperator_f h1 (br_t rfl (oy_badOp_f h1 (br_f ov_10 ⟨rfl, R0⟩)))

theorem i_vc_forget {k : Nat} {u : SX} {v : SY} (I : i_Rel k u v) (hk : k + 4 ≤ 2048) (v1 : Int32) : wpX_forget (fun r u' => wpY_forget (fun r' v' => r' = r ∧ i_Rel (k + 4) u' v') v v1) u v1 := by
  obtain ⟨e, tk, pt, op, ch, ty, hs, bc, bt, yq, yr, pa, pq, pv, yt, so, lo, to, fi, le, be, bo, sa, rfl, rfl, hw, hq⟩ := I
  have R0 : i_Rel (k + 4) (nI (ov_nc e), nI (ov_ac e), so, lo, ov_C (ov_cv e), ov_A (ov_st e), ov_A (ov_sc e), ov_A (ov_hd e), ov_A (ov_vs e), ov_A (ov_lt e), ov_A (ov_kd e), ov_A (ov_ct e), ov_A (ov_lf e), ov_A (ov_rt e), tk, pt, op, ch, ty, hs, bc, bt) (nI (ov_nc e), to, fi, le, be, bo, sa, ov_C (ov_cv e), ov_A (ov_hd e), ov_A (ov_s9 e), ov_A (ov_s3 e), ov_A (ov_s1 e), ov_A (ov_sc e), ov_A (ov_vs e), ov_A (ov_lt e), ov_A (ov_kd e), ov_A (ov_ct e), yq, yr, tk, pa, pq, pv, yt) := ov_mkR hw hq
  unfold wpX_forget wpY_forget
  dsimp only
  by_cases h1 : ov_in 0 3 v1
  · refine ox_isOperator_t h1 (br_f ov_10 ?_)
    have h1' := h1
    obtain ⟨a, _, ha, rfl⟩ := h1
    have hi : vp_in (nI a) 3 := vp_in_nI ha (by omega)
    refine ⟨hi, nm_e ⟨hi, nm_r (e' := ov_A (ov_u (ov_hd e) a 0)) (ov_AU (v := 0) (by omega)) ?_⟩⟩
    refine oy_badOp_t h1' (br_t rfl ⟨hi, nm_e ⟨hi, nm_r (e' := ov_A (ov_u (ov_hd e) a 0)) (ov_AU (v := 0) (by omega)) ⟨rfl, ?_⟩⟩⟩)
    refine ov_mkR (e := (ov_nc e, ov_cv e, ov_st e, ov_sc e, ov_u (ov_hd e) a 0, e.2.2.2.2.2)) ⟨hw.1, hw.2.1, hw.2.2.1, hw.2.2.2.1, ?_, hw.2.2.2.2.2⟩ hq
    exact ov_u_all (p := fun x => x ≤ 4) hw.2.2.2.2.1 (by omega)
  · exact ox_isOperator_f h1 (br_t rfl (oy_badOp_f h1 (br_f ov_10 ⟨rfl, R0⟩)))
theorem i_vc_declare {k : Nat} {u : SX} {v : SY} (I : i_Rel k u v) (hk : k + 4 ≤ 2048) (v1 : Int32) (v2 : Int32) : wpX_declare (fun r u' => wpY_declare (fun r' v' => r' = r ∧ i_Rel (k + 4) u' v') v v1 v2) u v1 v2 := by
  obtain ⟨e, tk, pt, op, ch, ty, hs, bc, bt, yq, yr, pa, pq, pv, yt, so, lo, to, fi, le, be, bo, sa, rfl, rfl, hw, hq⟩ := I
  have R0 : i_Rel (k + 4) (nI (ov_nc e), nI (ov_ac e), so, lo, ov_C (ov_cv e), ov_A (ov_st e), ov_A (ov_sc e), ov_A (ov_hd e), ov_A (ov_vs e), ov_A (ov_lt e), ov_A (ov_kd e), ov_A (ov_ct e), ov_A (ov_lf e), ov_A (ov_rt e), tk, pt, op, ch, ty, hs, bc, bt) (nI (ov_nc e), to, fi, le, be, bo, sa, ov_C (ov_cv e), ov_A (ov_hd e), ov_A (ov_s9 e), ov_A (ov_s3 e), ov_A (ov_s1 e), ov_A (ov_sc e), ov_A (ov_vs e), ov_A (ov_lt e), ov_A (ov_kd e), ov_A (ov_ct e), yq, yr, tk, pa, pq, pv, yt) := ov_mkR hw hq
  unfold wpX_declare wpY_declare
  dsimp only
  by_cases h1 : ov_in 0 2 v1
  · refine ox_isVariable_t h1 (br_f ov_10 ?_)
    by_cases h2 : ov_in 1 8 v2
    · refine ox_isSet_t h2 (br_f ov_10 ?_)
      have h1' := h1
      have h2' := h2
      obtain ⟨a, _, ha, rfl⟩ := h1
      obtain ⟨s, hs1, hs8, rfl⟩ := h2
      have hi : vp_in (nI a) 2 := vp_in_nI ha (by omega)
      refine ⟨hi, nm_e ⟨hi, nm_r (e' := ov_A (ov_u (ov_vs e) a s)) (ov_AU (by omega)) ?_⟩⟩
      refine ov_yt 0 1 h1' (ov_yt 1 7 h2' ⟨hi, nm_e ⟨hi, nm_r (e' := ov_A (ov_u (ov_vs e) a s)) (ov_AU (by omega)) ⟨rfl, ?_⟩⟩⟩)
      refine ov_mkR (e := (ov_nc e, ov_cv e, ov_st e, ov_sc e, ov_hd e, ov_u (ov_vs e) a s, e.2.2.2.2.2.2)) ⟨hw.1, hw.2.1, hw.2.2.1, hw.2.2.2.1, hw.2.2.2.2.1, ?_, hw.2.2.2.2.2.2⟩ hq
      exact ov_u_all (p := fun x => x < 8) hw.2.2.2.2.2.1 (by omega)
    · exact ox_isSet_f h2 (br_t rfl (ov_yt 0 1 h1 (ov_yf 1 7 h2 ⟨rfl, R0⟩ ⟨rfl, R0⟩)))
  · exact ox_isVariable_f h1 (br_t rfl (ov_yf 0 1 h1 ⟨rfl, R0⟩ ⟨rfl, R0⟩))
theorem i_vc_literalCost {k : Nat} {u : SX} {v : SY} (I : i_Rel k u v) (hk : k + 4 ≤ 2048) (v1 : Int32) (v2 : Int32) : wpX_literalCost (fun r u' => wpY_literalCost (fun r' v' => r' = r ∧ i_Rel (k + 4) u' v') v v1 v2) u v1 v2 := by
  obtain ⟨e, tk, pt, op, ch, ty, hs, bc, bt, yq, yr, pa, pq, pv, yt, so, lo, to, fi, le, be, bo, sa, rfl, rfl, hw, hq⟩ := I
  have R0 : i_Rel (k + 4) (nI (ov_nc e), nI (ov_ac e), so, lo, ov_C (ov_cv e), ov_A (ov_st e), ov_A (ov_sc e), ov_A (ov_hd e), ov_A (ov_vs e), ov_A (ov_lt e), ov_A (ov_kd e), ov_A (ov_ct e), ov_A (ov_lf e), ov_A (ov_rt e), tk, pt, op, ch, ty, hs, bc, bt) (nI (ov_nc e), to, fi, le, be, bo, sa, ov_C (ov_cv e), ov_A (ov_hd e), ov_A (ov_s9 e), ov_A (ov_s3 e), ov_A (ov_s1 e), ov_A (ov_sc e), ov_A (ov_vs e), ov_A (ov_lt e), ov_A (ov_kd e), ov_A (ov_ct e), yq, yr, tk, pa, pq, pv, yt) := ov_mkR hw hq
  unfold wpX_literalCost wpY_literalCost
  dsimp only
  by_cases h1 : ov_in 0 3 v1
  · refine ox_isType_t h1 (br_f ov_10 ?_)
    by_cases h2 : ov_in 0 10 v2
    · refine ox_isCost_t h2 (br_f ov_10 ?_)
      have h1' := h1
      have h2' := h2
      obtain ⟨a, _, ha, rfl⟩ := h1
      obtain ⟨s, _, hs9, rfl⟩ := h2
      have hi : vp_in (nI a) 3 := vp_in_nI ha (by omega)
      refine ⟨hi, nm_r (e' := ov_A (ov_u (ov_lt e) a s)) (ov_AU (by omega)) ?_⟩
      refine oy_badType_t h1' (br_t rfl (oy_badCost_t h2' (br_t rfl ⟨hi, nm_r (e' := ov_A (ov_u (ov_lt e) a s)) (ov_AU (by omega)) ⟨rfl, ?_⟩⟩)))
      refine ov_mkR (e := (ov_nc e, ov_cv e, ov_st e, ov_sc e, ov_hd e, ov_vs e, ov_u (ov_lt e) a s, e.2.2.2.2.2.2.2)) ⟨hw.1, hw.2.1, hw.2.2.1, hw.2.2.2.1, hw.2.2.2.2.1, hw.2.2.2.2.2.1, ?_, hw.2.2.2.2.2.2.2⟩ hq
      exact ov_u_all (p := fun x => x ≤ 9) hw.2.2.2.2.2.2.1 (by omega)
    · exact ox_isCost_f h2 (br_t rfl (oy_badType_t h1 (br_t rfl (oy_badCost_f h2 (br_f ov_10 ⟨rfl, R0⟩)))))
  · exact ox_isType_f h1 (br_t rfl (oy_badType_f h1 (br_f ov_10 ⟨rfl, R0⟩)))
theorem i_vc_clear {k : Nat} {u : SX} {v : SY} (I : i_Rel k u v) (hk : k + 4 ≤ 2048) : wpX_clear (fun r u' => wpY_clear (fun r' v' => r' = r ∧ i_Rel (k + 4) u' v') v) u := by
  obtain ⟨e, tk, pt, op, ch, ty, hs, bc, bt, yq, yr, pa, pq, pv, yt, so, lo, to, fi, le, be, bo, sa, rfl, rfl, hw, hq⟩ := I
  refine ⟨rfl, ov_mkR (e := (0, e.2)) ⟨Nat.zero_le _, hw.2.1, hw.2.2.1, hw.2.2.2.1, hw.2.2.2.2.1, hw.2.2.2.2.2.1, hw.2.2.2.2.2.2.1, hw.2.2.2.2.2.2.2.1, fun n h => absurd h (Nat.not_lt_zero n), Nat.zero_le _⟩ (fun n h => absurd h (Nat.not_lt_zero n))⟩
theorem i_vc_nodes {k : Nat} {u : SX} {v : SY} (I : i_Rel k u v) (hk : k + 4 ≤ 2048) : wpX_nodes (fun r => wpY_nodes (fun r' => r' = r ∧ i_Rel (k + 4) u v) v) u := by
  have I' := I
  obtain ⟨e, tk, pt, op, ch, ty, hs, bc, bt, yq, yr, pa, pq, pv, yt, so, lo, to, fi, le, be, bo, sa, rfl, rfl, hw, hq⟩ := I
  exact ⟨rfl, I'⟩
end
section
/-! new nodes, apply, the constructors -/
def ov_ad (e : ov_E) (kk cc : Nat) (lf rt : Nat → Nat) : ov_E := (ov_nc e + 1, ov_cv e, ov_st e, ov_sc e, ov_hd e, ov_vs e, ov_lt e, ov_u (ov_kd e) (ov_nc e) kk, ov_u (ov_ct e) (ov_nc e) cc, lf, rt)
theorem ov_cn_eq {p q : Nat → Bool} {k : Nat} (h : ∀ j, j < k → p j = q j) : ov_cn p k = ov_cn q k :=
  Nat.le_antisymm (ov_cn_le k (fun j hj hp => (h j hj) ▸ hp)) (ov_cn_le k (fun j hj hp => (h j hj).symm ▸ hp))
theorem ov_ad_ac (e : ov_E) (kk cc : Nat) (lf rt : Nat → Nat) : ov_ac (ov_ad e kk cc lf rt) = ov_ac e + (if kk = 3 then 1 else 0) := by
  show ov_cn (ov_ap (ov_ad e kk cc lf rt)) (ov_nc e) + (if ov_ap (ov_ad e kk cc lf rt) (ov_nc e) = true then 1 else 0) = _
  have h1 : ov_cn (ov_ap (ov_ad e kk cc lf rt)) (ov_nc e) = ov_ac e := ov_cn_eq (fun j hj => by
    show decide (ov_u (ov_kd e) (ov_nc e) kk j = 3) = decide (ov_kd e j = 3)
    rw [ov_un (by omega)])
  have h2 : ov_ap (ov_ad e kk cc lf rt) (ov_nc e) = decide (kk = 3) := by
    show decide (ov_u (ov_kd e) (ov_nc e) kk (ov_nc e) = 3) = _
    rw [ov_us]
  rw [h1, h2]
  by_cases hk : kk = 3
  · rw [if_pos hk, if_pos (decide_eq_true hk)]
  · rw [if_neg hk, decide_eq_false hk, if_neg Bool.false_ne_true]
theorem ov_ad_W {e : ov_E} {kk cc : Nat} {lf rt : Nat → Nat} (hw : ov_W e) (h12 : ov_nc e < 12) (hk : kk ≤ 3) (hc : cc < 8) (h1 : kk = 1 → cc < 2) (h2 : kk = 2 → cc < 3) (h3 : kk = 3 → cc < 3 ∧ lf (ov_nc e) < ov_nc e ∧ rt (ov_nc e) < ov_nc e) (hl : ∀ j, j < ov_nc e → lf j = ov_lf e j ∧ rt j = ov_rt e j) (ha : ov_ac e + (if kk = 3 then 1 else 0) ≤ 3) : ov_W (ov_ad e kk cc lf rt) := by
  refine ⟨h12, hw.2.1, hw.2.2.1, hw.2.2.2.1, hw.2.2.2.2.1, hw.2.2.2.2.2.1, hw.2.2.2.2.2.2.1, ov_u_all (p := fun x => x < 8) hw.2.2.2.2.2.2.2.1 hc, fun n hn => ?_, by rw [ov_ad_ac]; exact ha⟩
  have hn' : n < ov_nc e + 1 := hn
  show ov_u (ov_kd e) (ov_nc e) kk n ≤ 3 ∧ (ov_u (ov_kd e) (ov_nc e) kk n = 1 → ov_u (ov_ct e) (ov_nc e) cc n < 2) ∧ (ov_u (ov_kd e) (ov_nc e) kk n = 2 → ov_u (ov_ct e) (ov_nc e) cc n < 3) ∧ (ov_u (ov_kd e) (ov_nc e) kk n = 3 → ov_u (ov_ct e) (ov_nc e) cc n < 3 ∧ lf n < n ∧ rt n < n)
  by_cases h : n = ov_nc e
  · subst h
    rw [ov_us, ov_us]
    exact ⟨hk, h1, h2, h3⟩
  · rw [ov_un h, ov_un h, (hl n (by omega)).1, (hl n (by omega)).2]
    exact hw.2.2.2.2.2.2.2.2.1 n (by omega)
theorem ov_nb0 : vp_nar .boolean 0 = 0 := by rfl
theorem ov_nb1 : vp_nar .boolean 1 = 1 := by rfl
section
variable {e : ov_E} {tk pt op ch ty hs bc bt yq yr pa pq pv yt : Nat → Int32} {so lo to fi le be bo sa : Int32}
theorem ov_ad_R {k kk cc : Nat} {lf rt : Nat → Nat} {x y : Int32} (hw : ov_W e) (hq : ∀ n, n < ov_nc e → ov_kd e n = 3 → yq n = nI (ov_lf e n) ∧ yr n = nI (ov_rt e n)) (h12 : ov_nc e < 12) (hk : kk ≤ 3) (hc : cc < 8) (h1 : kk = 1 → cc < 2) (h2 : kk = 2 → cc < 3) (h3 : kk = 3 → cc < 3 ∧ lf (ov_nc e) < ov_nc e ∧ rt (ov_nc e) < ov_nc e) (hl : ∀ j, j < ov_nc e → lf j = ov_lf e j ∧ rt j = ov_rt e j) (ha : ov_ac e + (if kk = 3 then 1 else 0) ≤ 3) (hx : kk = 3 → x = nI (lf (ov_nc e)) ∧ y = nI (rt (ov_nc e))) :
    i_Rel k (nI (ov_nc e + 1), nI (ov_ac e + (if kk = 3 then 1 else 0)), so, lo, ov_C (ov_cv e), ov_A (ov_st e), ov_A (ov_sc e), ov_A (ov_hd e), ov_A (ov_vs e), ov_A (ov_lt e), ov_A (ov_u (ov_kd e) (ov_nc e) kk), ov_A (ov_u (ov_ct e) (ov_nc e) cc), ov_A lf, ov_A rt, tk, pt, op, ch, ty, hs, bc, bt) (nI (ov_nc e + 1), to, fi, le, be, bo, sa, ov_C (ov_cv e), ov_A (ov_hd e), ov_A (ov_s9 e), ov_A (ov_s3 e), ov_A (ov_s1 e), ov_A (ov_sc e), ov_A (ov_vs e), ov_A (ov_lt e), ov_A (ov_u (ov_kd e) (ov_nc e) kk), ov_A (ov_u (ov_ct e) (ov_nc e) cc), upd yq (ov_nc e) x, upd yr (ov_nc e) y, tk, pa, pq, pv, yt) := by
  rw [← ov_ad_ac e kk cc lf rt]
  refine ov_mkR (e := ov_ad e kk cc lf rt) (ov_ad_W hw h12 hk hc h1 h2 h3 hl ha) (fun n hn hkn => ?_)
  have hn' : n < ov_nc e + 1 := hn
  have hkn' : ov_u (ov_kd e) (ov_nc e) kk n = 3 := hkn
  show upd yq (ov_nc e) x n = nI (lf n) ∧ upd yr (ov_nc e) y n = nI (rt n)
  by_cases h : n = ov_nc e
  · subst h
    rw [ov_us] at hkn'
    rw [pk_us, pk_us]
    exact hx hkn'
  · rw [ov_un h] at hkn'
    rw [pk_un h, pk_un h, (hl n (by omega)).1, (hl n (by omega)).2]
    exact hq n (by omega) hkn'
theorem ox_addNode {post : Int32 → SX → Prop} {kk cc : Nat} (h : ov_nc e < 12) (hp : post (nI (ov_nc e)) (nI (ov_nc e + 1), nI (ov_ac e), so, lo, ov_C (ov_cv e), ov_A (ov_st e), ov_A (ov_sc e), ov_A (ov_hd e), ov_A (ov_vs e), ov_A (ov_lt e), ov_A (ov_u (ov_kd e) (ov_nc e) kk), ov_A (ov_u (ov_ct e) (ov_nc e) cc), ov_A (ov_lf e), ov_A (ov_rt e), upd tk (ov_nc e) 0, pt, op, ch, ty, hs, bc, bt)) : wpX_addNode post (nI (ov_nc e), nI (ov_ac e), so, lo, ov_C (ov_cv e), ov_A (ov_st e), ov_A (ov_sc e), ov_A (ov_hd e), ov_A (ov_vs e), ov_A (ov_lt e), ov_A (ov_kd e), ov_A (ov_ct e), ov_A (ov_lf e), ov_A (ov_rt e), tk, pt, op, ch, ty, hs, bc, bt) (nI kk) (nI cc) := by
  have hi : vp_in (nI (ov_nc e)) 12 := vp_in_nI h (by omega)
  exact ⟨hi, nm_r (ov_AU (by omega)) ⟨hi, nm_r (ov_AU (by omega)) ⟨hi, nm_r (e' := upd tk (ov_nc e) 0) (by rw [ov_nb0, nI_clamp (by omega)]) (nm_r (nI_1 _) hp)⟩⟩⟩
theorem oy_node {post : Int32 → SY → Prop} {kk cc : Nat} {x y : Int32} (h : ov_nc e < 12) (hp : post (nI (ov_nc e)) (nI (ov_nc e + 1), to, fi, le, be, bo, sa, ov_C (ov_cv e), ov_A (ov_hd e), ov_A (ov_s9 e), ov_A (ov_s3 e), ov_A (ov_s1 e), ov_A (ov_sc e), ov_A (ov_vs e), ov_A (ov_lt e), ov_A (ov_u (ov_kd e) (ov_nc e) kk), ov_A (ov_u (ov_ct e) (ov_nc e) cc), upd yq (ov_nc e) x, upd yr (ov_nc e) y, upd tk (ov_nc e) 0, pa, pq, pv, yt)) : wpY_node post (nI (ov_nc e), to, fi, le, be, bo, sa, ov_C (ov_cv e), ov_A (ov_hd e), ov_A (ov_s9 e), ov_A (ov_s3 e), ov_A (ov_s1 e), ov_A (ov_sc e), ov_A (ov_vs e), ov_A (ov_lt e), ov_A (ov_kd e), ov_A (ov_ct e), yq, yr, tk, pa, pq, pv, yt) (nI kk) (nI cc) x y := by
  have hi : vp_in (nI (ov_nc e)) 12 := vp_in_nI h (by omega)
  have hl := nI_lt (b := 12) h (by omega)
  exact br_t hl ⟨hi, nm_r (ov_AU (by omega)) ⟨hi, nm_r (ov_AU (by omega)) ⟨hi, nm_r (e' := upd yq (ov_nc e) x) (by rw [nI_clamp (by omega)]) ⟨hi, nm_r (e' := upd yr (ov_nc e) y) (by rw [nI_clamp (by omega)]) ⟨hi, nm_r (e' := upd tk (ov_nc e) 0) (by rw [ov_nb0, nI_clamp (by omega)]) (nm_r (nI_1 _) hp)⟩⟩⟩⟩⟩
theorem oy_node_f {post : Int32 → SY → Prop} {x y z w : Int32} (hw : ov_W e) (h : ¬ ov_nc e < 12) (hp : post (-2) (nI (ov_nc e), to, fi, le, be, bo, sa, ov_C (ov_cv e), ov_A (ov_hd e), ov_A (ov_s9 e), ov_A (ov_s3 e), ov_A (ov_s1 e), ov_A (ov_sc e), ov_A (ov_vs e), ov_A (ov_lt e), ov_A (ov_kd e), ov_A (ov_ct e), yq, yr, tk, pa, pq, pv, yt)) : wpY_node post (nI (ov_nc e), to, fi, le, be, bo, sa, ov_C (ov_cv e), ov_A (ov_hd e), ov_A (ov_s9 e), ov_A (ov_s3 e), ov_A (ov_s1 e), ov_A (ov_sc e), ov_A (ov_vs e), ov_A (ov_lt e), ov_A (ov_kd e), ov_A (ov_ct e), yq, yr, tk, pa, pq, pv, yt) x y z w := by
  have := hw.1
  exact br_f (nI_nlt (b := 12) (by omega) (by omega)) hp
end
theorem i_vc_literal {k : Nat} {u : SX} {v : SY} (I : i_Rel k u v) (hk : k + 4 ≤ 2048) (v1 : Int32) : wpX_literal (fun r u' => wpY_literal (fun r' v' => r' = r ∧ i_Rel (k + 4) u' v') v v1) u v1 := by
  obtain ⟨e, tk, pt, op, ch, ty, hs, bc, bt, yq, yr, pa, pq, pv, yt, so, lo, to, fi, le, be, bo, sa, rfl, rfl, hw, hq⟩ := I
  have R0 : i_Rel (k + 4) (nI (ov_nc e), nI (ov_ac e), so, lo, ov_C (ov_cv e), ov_A (ov_st e), ov_A (ov_sc e), ov_A (ov_hd e), ov_A (ov_vs e), ov_A (ov_lt e), ov_A (ov_kd e), ov_A (ov_ct e), ov_A (ov_lf e), ov_A (ov_rt e), tk, pt, op, ch, ty, hs, bc, bt) (nI (ov_nc e), to, fi, le, be, bo, sa, ov_C (ov_cv e), ov_A (ov_hd e), ov_A (ov_s9 e), ov_A (ov_s3 e), ov_A (ov_s1 e), ov_A (ov_sc e), ov_A (ov_vs e), ov_A (ov_lt e), ov_A (ov_kd e), ov_A (ov_ct e), yq, yr, tk, pa, pq, pv, yt) := ov_mkR hw hq
  have h12 := hw.1
  unfold wpX_literal wpY_literal
  dsimp only
  by_cases h1 : ov_in 1 8 v1
  · refine ox_isSet_t h1 (br_f ov_10 (pk_lt (ov_nc e) 12 (fun hn => ?_) (fun hn => ?_)))
    · obtain ⟨s, hs1, hs8, rfl⟩ := h1
      refine ox_addNode (kk := 0) hn ?_
      refine ov_yt 1 7 ⟨s, hs1, hs8, rfl⟩ (oy_node (kk := 0) hn ⟨rfl, ?_⟩)
      exact ov_ad_R (kk := 0) hw hq hn (by omega) (by omega) (fun h => nomatch h) (fun h => nomatch h) (fun h => nomatch h) (fun _ _ => ⟨rfl, rfl⟩) hw.2.2.2.2.2.2.2.2.2 (fun h => nomatch h)
    · exact ov_yt 1 7 h1 (oy_node_f hw (by omega) ⟨rfl, R0⟩)
  · exact ox_isSet_f h1 (br_t rfl (ov_yf 1 7 h1 ⟨rfl, R0⟩ ⟨rfl, R0⟩))
theorem i_vc_use {k : Nat} {u : SX} {v : SY} (I : i_Rel k u v) (hk : k + 4 ≤ 2048) (v1 : Int32) : wpX_use (fun r u' => wpY_use (fun r' v' => r' = r ∧ i_Rel (k + 4) u' v') v v1) u v1 := by
  obtain ⟨e, tk, pt, op, ch, ty, hs, bc, bt, yq, yr, pa, pq, pv, yt, so, lo, to, fi, le, be, bo, sa, rfl, rfl, hw, hq⟩ := I
  have R0 : i_Rel (k + 4) (nI (ov_nc e), nI (ov_ac e), so, lo, ov_C (ov_cv e), ov_A (ov_st e), ov_A (ov_sc e), ov_A (ov_hd e), ov_A (ov_vs e), ov_A (ov_lt e), ov_A (ov_kd e), ov_A (ov_ct e), ov_A (ov_lf e), ov_A (ov_rt e), tk, pt, op, ch, ty, hs, bc, bt) (nI (ov_nc e), to, fi, le, be, bo, sa, ov_C (ov_cv e), ov_A (ov_hd e), ov_A (ov_s9 e), ov_A (ov_s3 e), ov_A (ov_s1 e), ov_A (ov_sc e), ov_A (ov_vs e), ov_A (ov_lt e), ov_A (ov_kd e), ov_A (ov_ct e), yq, yr, tk, pa, pq, pv, yt) := ov_mkR hw hq
  have h12 := hw.1
  unfold wpX_use wpY_use
  dsimp only
  by_cases h1 : ov_in 0 2 v1
  · refine ox_isVariable_t h1 (br_f ov_10 (pk_lt (ov_nc e) 12 (fun hn => ?_) (fun hn => ?_)))
    · obtain ⟨s, hs1, hs8, rfl⟩ := h1
      refine ox_addNode (kk := 1) hn ?_
      refine ov_yt 0 1 ⟨s, hs1, hs8, rfl⟩ (oy_node (kk := 1) hn ⟨rfl, ?_⟩)
      exact ov_ad_R (kk := 1) hw hq hn (by omega) (by omega) (fun h => by omega) (fun h => nomatch h) (fun h => nomatch h) (fun _ _ => ⟨rfl, rfl⟩) hw.2.2.2.2.2.2.2.2.2 (fun h => nomatch h)
    · exact ov_yt 0 1 h1 (oy_node_f hw (by omega) ⟨rfl, R0⟩)
  · exact ox_isVariable_f h1 (br_t rfl (ov_yf 0 1 h1 ⟨rfl, R0⟩ ⟨rfl, R0⟩))
theorem i_vc_constant {k : Nat} {u : SX} {v : SY} (I : i_Rel k u v) (hk : k + 4 ≤ 2048) (v1 : Int32) : wpX_constant (fun r u' => wpY_constant (fun r' v' => r' = r ∧ i_Rel (k + 4) u' v') v v1) u v1 := by
  obtain ⟨e, tk, pt, op, ch, ty, hs, bc, bt, yq, yr, pa, pq, pv, yt, so, lo, to, fi, le, be, bo, sa, rfl, rfl, hw, hq⟩ := I
  have R0 : i_Rel (k + 4) (nI (ov_nc e), nI (ov_ac e), so, lo, ov_C (ov_cv e), ov_A (ov_st e), ov_A (ov_sc e), ov_A (ov_hd e), ov_A (ov_vs e), ov_A (ov_lt e), ov_A (ov_kd e), ov_A (ov_ct e), ov_A (ov_lf e), ov_A (ov_rt e), tk, pt, op, ch, ty, hs, bc, bt) (nI (ov_nc e), to, fi, le, be, bo, sa, ov_C (ov_cv e), ov_A (ov_hd e), ov_A (ov_s9 e), ov_A (ov_s3 e), ov_A (ov_s1 e), ov_A (ov_sc e), ov_A (ov_vs e), ov_A (ov_lt e), ov_A (ov_kd e), ov_A (ov_ct e), yq, yr, tk, pa, pq, pv, yt) := ov_mkR hw hq
  have h12 := hw.1
  unfold wpX_constant wpY_constant
  dsimp only
  by_cases h1 : ov_in 0 3 v1
  · refine ox_isType_t h1 (br_f ov_10 (pk_lt (ov_nc e) 12 (fun hn => ?_) (fun hn => ?_)))
    · obtain ⟨s, hs1, hs8, rfl⟩ := h1
      refine ox_addNode (kk := 2) hn ?_
      refine oy_badType_t ⟨s, hs1, hs8, rfl⟩ (br_t rfl (oy_node (kk := 2) hn ⟨rfl, ?_⟩))
      exact ov_ad_R (kk := 2) hw hq hn (by omega) (by omega) (fun h => nomatch h) (fun h => by omega) (fun h => nomatch h) (fun _ _ => ⟨rfl, rfl⟩) hw.2.2.2.2.2.2.2.2.2 (fun h => nomatch h)
    · exact oy_badType_t h1 (br_t rfl (oy_node_f hw (by omega) ⟨rfl, R0⟩))
  · exact ox_isType_f h1 (br_t rfl (oy_badType_f h1 (br_f ov_10 ⟨rfl, R0⟩)))
section
variable {e : ov_E} {tk pt op ch ty hs bc bt yq yr pa pq pv yt : Nat → Int32} {so lo to fi le be bo sa : Int32}
theorem oy_applications {post : Int32 → Prop} (hw : ov_W e) (hp : post (nI (ov_ac e))) : wpY_applications post (nI (ov_nc e), to, fi, le, be, bo, sa, ov_C (ov_cv e), ov_A (ov_hd e), ov_A (ov_s9 e), ov_A (ov_s3 e), ov_A (ov_s1 e), ov_A (ov_sc e), ov_A (ov_vs e), ov_A (ov_lt e), ov_A (ov_kd e), ov_A (ov_ct e), yq, yr, tk, pa, pq, pv, yt) := by
  have h12 := hw.1
  refine loop_0 (fun n i (_ : Unit) => wY_applications_4 post (nI (ov_nc e)) to fi le be bo sa (ov_C (ov_cv e)) (ov_A (ov_hd e)) (ov_A (ov_s9 e)) (ov_A (ov_s3 e)) (ov_A (ov_s1 e)) (ov_A (ov_sc e)) (ov_A (ov_vs e)) (ov_A (ov_lt e)) (ov_A (ov_kd e)) (ov_A (ov_ct e)) yq yr tk pa pq pv yt n (nI (ov_cn (ov_ap e) i)) (nI i)) (fun _ _ => True) (ov_nc e) () trivial (fun n s _ => ?_) (fun n i s hi _ hk => ?_)
  · exact br_t (nI_le (Nat.le_refl _) (by omega)) hp
  · have hN := hw.2.2.2.2.2.2.2.2.1 i hi
    have hs : ov_cn (ov_ap e) (i + 1) = ov_cn (ov_ap e) i + (if ov_ap e i = true then 1 else 0) := rfl
    have hk' := hk () trivial
    refine br_f (nI_ge hi (by omega)) (br_f (nI_ge (b := 12) (by omega) (by omega)) ⟨vp_in_nI (by omega) (by omega), pk_eq (ov_kd e i) 3 (fun h3 => ?_) (fun h3 => ?_) (ov_AV (by omega)) rfl (by have := hN.1; omega) (by omega)⟩)
    · rw [hs, if_pos (show ov_ap e i = true from decide_eq_true h3)] at hk'
      exact nm_r (nI_1 _) (nm_r (nI_1 _) hk')
    · rw [hs, if_neg (by unfold ov_ap; rw [decide_eq_false h3]; exact Bool.false_ne_true)] at hk'
      exact nm_r (nI_1 _) hk'
end
theorem ov_tk {tk : Nat → Int32} {n l m : Nat} (hl : l < n) (hm : m < n) : upd (upd (upd tk n 0) l 1) m 1 = upd (upd (upd tk l 1) m 1) n 0 := by
  funext j
  by_cases h1 : j = m
  · subst h1; rw [pk_us, pk_un (by omega), pk_us]
  · rw [pk_un h1]
    by_cases h2 : j = l
    · subst h2; rw [pk_us, pk_un (by omega), pk_un h1, pk_us]
    · rw [pk_un h2]
      by_cases h3 : j = n
      · subst h3; rw [pk_us, pk_us]
      · rw [pk_un h3, pk_un h3, pk_un h1, pk_un h2]
theorem i_vc_apply {k : Nat} {u : SX} {v : SY} (I : i_Rel k u v) (hk : k + 4 ≤ 2048) (v1 : Int32) (v2 : Int32) (v3 : Int32) : wpX_apply (fun r u' => wpY_apply (fun r' v' => r' = r ∧ i_Rel (k + 4) u' v') v v1 v2 v3) u v1 v2 v3 := by
  obtain ⟨e, tk, pt, op, ch, ty, hs, bc, bt, yq, yr, pa, pq, pv, yt, so, lo, to, fi, le, be, bo, sa, rfl, rfl, hw, hq⟩ := I
  have R0 : i_Rel (k + 4) (nI (ov_nc e), nI (ov_ac e), so, lo, ov_C (ov_cv e), ov_A (ov_st e), ov_A (ov_sc e), ov_A (ov_hd e), ov_A (ov_vs e), ov_A (ov_lt e), ov_A (ov_kd e), ov_A (ov_ct e), ov_A (ov_lf e), ov_A (ov_rt e), tk, pt, op, ch, ty, hs, bc, bt) (nI (ov_nc e), to, fi, le, be, bo, sa, ov_C (ov_cv e), ov_A (ov_hd e), ov_A (ov_s9 e), ov_A (ov_s3 e), ov_A (ov_s1 e), ov_A (ov_sc e), ov_A (ov_vs e), ov_A (ov_lt e), ov_A (ov_kd e), ov_A (ov_ct e), yq, yr, tk, pa, pq, pv, yt) := ov_mkR hw hq
  have h12 := hw.1
  have ha3 := hw.2.2.2.2.2.2.2.2.2
  unfold wpX_apply wpY_apply
  dsimp only
  by_cases h1 : ov_in 0 3 v1
  · refine ox_isOperator_t h1 (br_f ov_10 ?_)
    by_cases h2 : ov_in 0 (ov_nc e) v2
    · refine ox_isNode_t hw h2 (br_f ov_10 ?_)
      by_cases h3 : ov_in 0 (ov_nc e) v3
      · refine ox_isNode_t hw h3 (br_f ov_10 ?_)
        by_cases h4 : v2 = v3
        · exact br_t h4 (oy_badOp_t h1 (br_t rfl (oy_badNode_t hw h2 (br_t rfl (oy_badNode_t hw h3 (br_t rfl (br_t h4 ⟨rfl, R0⟩)))))))
        · have h1' := h1
          have h2' := h2
          have h3' := h3
          obtain ⟨o, _, ho, rfl⟩ := h1
          obtain ⟨l, _, hl, rfl⟩ := h2
          obtain ⟨m, _, hm, rfl⟩ := h3
          have il : vp_in (nI l) 12 := vp_in_nI (by omega) (by omega)
          have im : vp_in (nI m) 12 := vp_in_nI (by omega) (by omega)
          refine br_f h4 ⟨il, ?_⟩
          by_cases h5 : tk (nI l).toNatClampNeg = 0
          · refine br_t h5 ⟨im, ?_⟩
            by_cases h6 : tk (nI m).toNatClampNeg = 0
            · refine br_t h6 (pk_le 12 (ov_nc e) (fun h7 => ?_) (fun h7 => pk_lt (ov_ac e) 3 (fun h8 => ?_) (fun h8 => ?_)))
              · exact oy_badOp_t h1' (br_t rfl (oy_badNode_t hw h2' (br_t rfl (oy_badNode_t hw h3' (br_t rfl (br_f h4 ⟨il, br_t h5 ⟨im, br_t h6 (pk_eq (ov_nc e) 12 (fun _ => ⟨rfl, R0⟩) (fun z => absurd z (by omega)))⟩⟩))))))
              · refine ox_addNode (kk := 3) h7 ?_
                have hn : vp_in (nI (ov_nc e)) 12 := vp_in_nI h7 (by omega)
                refine ⟨hn, nm_r (ov_AU (by omega)) ⟨hn, nm_r (ov_AU (by omega)) ⟨il, nm_r (e' := upd (upd tk (ov_nc e) 0) l 1) (by rw [ov_nb1, nI_clamp (by omega)]) ⟨im, nm_r (e' := upd (upd (upd tk l 1) m 1) (ov_nc e) 0) (by rw [ov_nb1, nI_clamp (by omega), ov_tk hl hm]) (nm_r (nI_1 _) ?_)⟩⟩⟩⟩
                refine oy_badOp_t h1' (br_t rfl (oy_badNode_t hw h2' (br_t rfl (oy_badNode_t hw h3' (br_t rfl (br_f h4 ⟨il, br_t h5 ⟨im, br_t h6 (pk_eq (ov_nc e) 12 (fun z => absurd z (by omega)) (fun _ => oy_applications hw (pk_eq (ov_ac e) 3 (fun z => absurd z (by omega)) (fun _ => ?_))))⟩⟩))))))
                refine ⟨il, nm_r (e' := upd tk l 1) (by rw [ov_nb1, nI_clamp (by omega)]) ⟨im, nm_r (e' := upd (upd tk l 1) m 1) (by rw [ov_nb1, nI_clamp (by omega)]) ?_⟩⟩
                refine oy_node (kk := 3) h7 ⟨rfl, ?_⟩
                exact ov_ad_R (kk := 3) hw hq h7 (by omega) (by omega) (fun h => nomatch h) (fun h => nomatch h) (fun _ => ⟨ho, by rw [ov_us]; exact hl, by rw [ov_us]; exact hm⟩) (fun j hj => ⟨ov_un (by omega), ov_un (by omega)⟩) (by rw [if_pos rfl]; omega) (fun _ => ⟨by rw [ov_us], by rw [ov_us]⟩)
              · exact oy_badOp_t h1' (br_t rfl (oy_badNode_t hw h2' (br_t rfl (oy_badNode_t hw h3' (br_t rfl (br_f h4 ⟨il, br_t h5 ⟨im, br_t h6 (pk_eq (ov_nc e) 12 (fun z => absurd z (by omega)) (fun _ => oy_applications hw (pk_eq (ov_ac e) 3 (fun _ => ⟨rfl, R0⟩) (fun z => absurd z (by omega)))))⟩⟩))))))
            · exact br_f h6 (oy_badOp_t h1' (br_t rfl (oy_badNode_t hw h2' (br_t rfl (oy_badNode_t hw h3' (br_t rfl (br_f h4 ⟨il, br_t h5 ⟨im, br_f h6 ⟨rfl, R0⟩⟩⟩)))))))
          · exact br_f h5 (oy_badOp_t h1' (br_t rfl (oy_badNode_t hw h2' (br_t rfl (oy_badNode_t hw h3' (br_t rfl (br_f h4 ⟨il, br_f h5 ⟨rfl, R0⟩⟩)))))))
      · exact ox_isNode_f hw h3 (br_t rfl (oy_badOp_t h1 (br_t rfl (oy_badNode_t hw h2 (br_t rfl (oy_badNode_f hw h3 (br_f ov_10 ⟨rfl, R0⟩)))))))
    · exact ox_isNode_f hw h2 (br_t rfl (oy_badOp_t h1 (br_t rfl (oy_badNode_f hw h2 (br_f ov_10 ⟨rfl, R0⟩)))))
  · exact ox_isOperator_f h1 (br_t rfl (oy_badOp_f h1 (br_f ov_10 ⟨rfl, R0⟩)))
end
section
/-! the constructors -/
def ov_c0 (m : Nat) : Nat → Option Nat := fun j => if j < m ∧ j % 4 ≠ 0 then none else some 0
theorem ov_c0_u {m : Nat} {x : Int32} (h : x = ov_o (if m % 4 ≠ 0 then none else some 0)) : upd (ov_C (ov_c0 m)) m x = ov_C (ov_c0 (m + 1)) := by
  subst h
  rw [ov_C_u]
  have : ov_u (ov_c0 m) m (if m % 4 ≠ 0 then none else some 0) = ov_c0 (m + 1) := by
    funext j
    by_cases hj : j = m
    · subst hj
      rw [ov_us]
      unfold ov_c0
      by_cases h4 : j % 4 ≠ 0
      · rw [if_pos h4, if_pos ⟨by omega, h4⟩]
      · rw [if_neg h4, if_neg (fun z => h4 z.2)]
    · rw [ov_un hj]
      unfold ov_c0
      by_cases h4 : j < m ∧ j % 4 ≠ 0
      · rw [if_pos h4, if_pos ⟨by omega, h4.2⟩]
      · rw [if_neg h4, if_neg (fun z => h4 ⟨by omega, z.2⟩)]
  rw [this]
def ov_v0 (m : Nat) : Nat → Nat := fun j => if j < m then 7 else 0
theorem ov_v0_u {m : Nat} : upd (ov_A (ov_v0 m)) m 7 = ov_A (ov_v0 (m + 1)) := by
  have : ov_u (ov_v0 m) m 7 = ov_v0 (m + 1) := by
    funext j
    unfold ov_v0
    by_cases hj : j = m
    · subst hj
      rw [ov_us, if_pos (by omega)]
    · rw [ov_un hj]
      by_cases h : j < m
      · rw [if_pos h, if_pos (by omega)]
      · rw [if_neg h, if_neg (by omega)]
  rw [← this, ← ov_A_u]
  rfl
def ov_e0 : ov_E := (0, ov_c0 9, ov_z, ov_z, ov_z, ov_v0 2, ov_z, ov_z, ov_z, ov_z, ov_z)
theorem ov_e0_W : ov_W ov_e0 := by
  refine ⟨Nat.zero_le _, fun i c h => ?_, fun _ => Nat.zero_lt_succ _, fun _ => Nat.zero_le _, fun _ => Nat.zero_le _, fun i => ?_, fun _ => Nat.zero_le _, fun _ => Nat.zero_lt_succ _, fun n h => absurd h (Nat.not_lt_zero n), Nat.zero_le _⟩
  · have h' : (if i < 9 ∧ i % 4 ≠ 0 then none else some 0) = some c := h
    split at h'
    · cases h'
    · have := Option.some.inj h'; omega
  · show (if i < 2 then 7 else 0) < 8
    split <;> omega
theorem ov_i0 : i_Rel 0 (0, 0, 0, -1, ov_C (ov_c0 9), fun _ => 0, fun _ => 0, fun _ => 0, ov_A (ov_v0 2), fun _ => 0, fun _ => 0, fun _ => 0, fun _ => 0, fun _ => 0, fun _ => 0, fun _ => 0, fun _ => 0, fun _ => 0, fun _ => 0, fun _ => 0, fun _ => 0, fun _ => 0) (0, 0, 0, 0, 0, 0, 0, ov_C (ov_c0 9), fun _ => 0, fun _ => 0, fun _ => 0, fun _ => 0, fun _ => 0, ov_A (ov_v0 2), fun _ => 0, fun _ => 0, fun _ => 0, fun _ => 0, fun _ => 0, fun _ => 0, fun _ => 0, fun _ => 0, fun _ => 0, fun _ => 0) :=
  by
    have R := ov_mkR (k := 0) (e := ov_e0) (tk := fun _ => 0) (pt := fun _ => 0) (op := fun _ => 0) (ch := fun _ => 0) (ty := fun _ => 0) (hs := fun _ => 0) (bc := fun _ => 0) (bt := fun _ => 0) (yq := fun _ => 0) (yr := fun _ => 0) (pa := fun _ => 0) (pq := fun _ => 0) (pv := fun _ => 0) (yt := fun _ => 0) (so := 0) (lo := -1) (to := 0) (fi := 0) (le := 0) (be := 0) (bo := 0) (sa := 0) ov_e0_W (fun n h => absurd h (Nat.not_lt_zero n))
    have hz : ov_A ov_z = fun _ => 0 := by funext i; rfl
    have h9 : ov_A (ov_s9 ov_e0) = fun _ => 0 := by funext i; show nI (0 / 9) = 0; decide
    have h3 : ov_A (ov_s3 ov_e0) = fun _ => 0 := by funext i; show nI (0 / 3 % 3) = 0; decide
    have h1 : ov_A (ov_s1 ov_e0) = fun _ => 0 := by funext i; show nI (0 % 3) = 0; decide
    rw [h9, h3, h1] at R
    exact R
theorem oy_init {post : SY → Prop} (hp : post (0, 0, 0, 0, 0, 0, 0, ov_C (ov_c0 9), fun _ => 0, fun _ => 0, fun _ => 0, fun _ => 0, fun _ => 0, ov_A (ov_v0 2), fun _ => 0, fun _ => 0, fun _ => 0, fun _ => 0, fun _ => 0, fun _ => 0, fun _ => 0, fun _ => 0, fun _ => 0, fun _ => 0)) : wpY_init post := by
  refine loop_0 (fun n i (_ : Unit) => wY_init_138 post 0 0 0 0 0 0 0 n (nI i) (ov_C (ov_c0 i)) (fun _ => 0) (fun _ => 0) (fun _ => 0) (fun _ => 0) (fun _ => 0) (fun _ => 0) (fun _ => 0) (fun _ => 0) (fun _ => 0) (fun _ => 0) (fun _ => 0) (fun _ => 0) (fun _ => 0) (fun _ => 0) (fun _ => 0) (fun _ => 0)) (fun _ _ => True) 9 () trivial (fun n s _ => ?_) (fun n i s hi _ hk => ?_)
  · refine br_t (nI_le (a := 9) (Nat.le_refl 9) (by omega)) (nm_r (e' := ov_A (ov_v0 1)) (ov_v0_u (m := 0)) (nm_r (e' := ov_A (ov_v0 2)) (ov_v0_u (m := 1)) hp))
  · have hv : vp_in (nI i) 9 := vp_in_nI hi (by omega)
    have hk' := hk () trivial
    refine br_f (nI_ge (b := 9) hi (by omega)) ⟨ov_43, ?_⟩
    rw [ov_rem4 (by omega)]
    refine pk_eq (i % 4) 0 (fun h => ?_) (fun h => ?_)
    · exact ⟨hv, nm_r (e' := ov_C (ov_c0 (i + 1))) (by rw [nI_clamp (by omega)]; exact ov_c0_u (by rw [if_neg (fun z => z h)]; rfl)) (nm_r (nI_1 _) hk')⟩
    · exact ⟨hv, nm_r (e' := ov_C (ov_c0 (i + 1))) (by rw [nI_clamp (by omega)]; exact ov_c0_u (by rw [if_pos h]; rfl)) (nm_r (nI_1 _) hk')⟩
theorem ox_init_213 {post : SX → Prop} {c : Nat → Int32} (hp : post (0, 0, 0, -1, c, fun _ => 0, fun _ => 0, fun _ => 0, ov_A (ov_v0 2), fun _ => 0, fun _ => 0, fun _ => 0, fun _ => 0, fun _ => 0, fun _ => 0, fun _ => 0, fun _ => 0, fun _ => 0, fun _ => 0, fun _ => 0, fun _ => 0, fun _ => 0)) : ∃ n, wX_init_213 post 0 0 0 (-1) n 0 c (fun _ => 0) (fun _ => 0) (fun _ => 0) (fun _ => 0) (fun _ => 0) (fun _ => 0) (fun _ => 0) (fun _ => 0) (fun _ => 0) (fun _ => 0) (fun _ => 0) (fun _ => 0) (fun _ => 0) (fun _ => 0) (fun _ => 0) (fun _ => 0) (fun _ => 0) := by
  refine loop_0 (fun n i (_ : Unit) => wX_init_213 post 0 0 0 (-1) n (nI i) c (fun _ => 0) (fun _ => 0) (fun _ => 0) (ov_A (ov_v0 i)) (fun _ => 0) (fun _ => 0) (fun _ => 0) (fun _ => 0) (fun _ => 0) (fun _ => 0) (fun _ => 0) (fun _ => 0) (fun _ => 0) (fun _ => 0) (fun _ => 0) (fun _ => 0) (fun _ => 0)) (fun _ _ => True) 2 () trivial (fun n s _ => ?_) (fun n i s hi _ hk => ?_)
  · exact br_t (nI_le (a := 2) (Nat.le_refl 2) (by omega)) hp
  · have hv : vp_in (nI i) 2 := vp_in_nI hi (by omega)
    have hk' := hk () trivial
    exact br_f (nI_ge (b := 2) hi (by omega)) ⟨hv, nm_r (e' := ov_A (ov_v0 (i + 1))) (by rw [nI_clamp (by omega)]; exact ov_v0_u) (nm_r (nI_1 _) hk')⟩
theorem ox_init_174 {post : SX → Prop} {i : Nat} (hi : i < 3) {J : Int32 → (Nat → Int32) → (Nat → Int32) → (Nat → Int32) → (Nat → Int32) → (Nat → Int32) → (Nat → Int32) → (Nat → Int32) → (Nat → Int32) → (Nat → Int32) → (Nat → Int32) → (Nat → Int32) → (Nat → Int32) → (Nat → Int32) → (Nat → Int32) → (Nat → Int32) → (Nat → Int32) → (Nat → Int32) → (Nat → Int32) → Prop} (hJ : J (nI (i + 1)) (ov_C (ov_c0 (3 * i + 3))) (fun _ => 0) (fun _ => 0) (fun _ => 0) (fun _ => 0) (fun _ => 0) (fun _ => 0) (fun _ => 0) (fun _ => 0) (fun _ => 0) (fun _ => 0) (fun _ => 0) (fun _ => 0) (fun _ => 0) (fun _ => 0) (fun _ => 0) (fun _ => 0) (fun _ => 0)) : ∃ n, wX_init_174 post J (nI i) 0 0 0 (-1) n 0 (ov_C (ov_c0 (3 * i))) (fun _ => 0) (fun _ => 0) (fun _ => 0) (fun _ => 0) (fun _ => 0) (fun _ => 0) (fun _ => 0) (fun _ => 0) (fun _ => 0) (fun _ => 0) (fun _ => 0) (fun _ => 0) (fun _ => 0) (fun _ => 0) (fun _ => 0) (fun _ => 0) (fun _ => 0) := by
  refine loop_0 (fun n j (_ : Unit) => wX_init_174 post J (nI i) 0 0 0 (-1) n (nI j) (ov_C (ov_c0 (3 * i + j))) (fun _ => 0) (fun _ => 0) (fun _ => 0) (fun _ => 0) (fun _ => 0) (fun _ => 0) (fun _ => 0) (fun _ => 0) (fun _ => 0) (fun _ => 0) (fun _ => 0) (fun _ => 0) (fun _ => 0) (fun _ => 0) (fun _ => 0) (fun _ => 0) (fun _ => 0)) (fun _ _ => True) 3 () trivial (fun n s _ => ?_) (fun n j s hj _ hk => ?_)
  · exact br_t (nI_le (a := 3) (Nat.le_refl 3) (by omega)) (nm_r (nI_1 _) hJ)
  · have hk' := hk () trivial
    have hv : vp_in (3 * nI i + nI j) 9 := by rw [ov_ix3]; exact vp_in_nI (by omega) (by omega)
    refine br_f (nI_ge (b := 3) hj (by omega)) (pk_eq i j (fun h => ?_) (fun h => ?_))
    · exact ⟨hv, nm_r (e' := ov_C (ov_c0 (3 * i + j + 1))) (by rw [ov_ix3, nI_clamp (by omega)]; exact ov_c0_u (by rw [if_neg (fun z => z (by omega))]; rfl)) (nm_r (nI_1 _) hk')⟩
    · exact ⟨hv, nm_r (e' := ov_C (ov_c0 (3 * i + j + 1))) (by rw [ov_ix3, nI_clamp (by omega)]; exact ov_c0_u (by rw [if_pos (by omega)]; rfl)) (nm_r (nI_1 _) hk')⟩
theorem i_vc0 : wpX_init (fun u => wpY_init (fun v => i_Rel 0 u v)) := by
  have h : ∀ post : SX → Prop, post (0, 0, 0, -1, ov_C (ov_c0 9), fun _ => 0, fun _ => 0, fun _ => 0, ov_A (ov_v0 2), fun _ => 0, fun _ => 0, fun _ => 0, fun _ => 0, fun _ => 0, fun _ => 0, fun _ => 0, fun _ => 0, fun _ => 0, fun _ => 0, fun _ => 0, fun _ => 0, fun _ => 0) → wpX_init post := by
    intro post hp
    refine loop_0 (fun n i (_ : Unit) => wX_init_167 post 0 0 0 (-1) n (nI i) (ov_C (ov_c0 (3 * i))) (fun _ => 0) (fun _ => 0) (fun _ => 0) (fun _ => 0) (fun _ => 0) (fun _ => 0) (fun _ => 0) (fun _ => 0) (fun _ => 0) (fun _ => 0) (fun _ => 0) (fun _ => 0) (fun _ => 0) (fun _ => 0) (fun _ => 0) (fun _ => 0) (fun _ => 0)) (fun _ _ => True) 3 () trivial (fun n s _ => ?_) (fun n i s hi _ hk => ?_)
    · exact br_t (nI_le (a := 3) (Nat.le_refl 3) (by omega)) (ox_init_213 hp)
    · exact br_f (nI_ge (b := 3) hi (by omega)) (ox_init_174 hi (hk () trivial))
  exact h _ (oy_init ov_i0)
end
section
/-! X: the parts, the options, the counter -/
def ov_bI (b : Bool) : Int32 := if b = true then 1 else 0
theorem ov_pc {A B : Prop} {x : Int32} {b : Bool} (hx : x = ov_bI b) (f : b = false → A) (g : b = true → B) : (x = 0 → A) ∧ (¬ x = 0 → B) := by
  subst hx
  cases b with
  | false => exact br_t rfl (f rfl)
  | true => exact br_f ov_10 (g rfl)
theorem ov_up {s : Nat → Int32} {f : Nat → Int32} {i : Nat} {x : Int32} (h : ∀ j, j < i → s j = f j) (hx : x = f i) : ∀ j, j < i + 1 → upd s i x j = f j := fun j hj => by
  by_cases hi : j = i
  · subst hi; rw [pk_us]; exact hx
  · rw [pk_un hi]; exact h j (by omega)
theorem ov_up2 {s : Nat → Int32} {f g : Nat → Bool} {i : Nat} {x : Int32} {N : Nat} (h : ∀ j, j < N → s j = ov_bI (f j)) (hx : x = ov_bI (g i)) (hg : ∀ j, j ≠ i → g j = f j) : ∀ j, j < N → upd s i x j = ov_bI (g j) := fun j hj => by
  by_cases hi : j = i
  · subst hi; rw [pk_us]; exact hx
  · rw [pk_un hi, hg j hi]; exact h j hj
section
variable {e : ov_E} {tk pt op ch ty hs bc bt : Nat → Int32} {so lo : Int32}
theorem ox_mark_32 (hw : ov_W e) {post : SX → Prop} : ∀ (m : Nat) (s : Nat → Int32) (f : Nat → Bool), m ≤ ov_nc e → (∀ j, j < 12 → s j = ov_bI (f j)) → (∀ s', (∀ j, j < 12 → s' j = ov_bI (ov_mk e m f j)) → post (nI (ov_nc e), nI (ov_ac e), so, lo, ov_C (ov_cv e), ov_A (ov_st e), ov_A (ov_sc e), ov_A (ov_hd e), ov_A (ov_vs e), ov_A (ov_lt e), ov_A (ov_kd e), ov_A (ov_ct e), ov_A (ov_lf e), ov_A (ov_rt e), tk, s', op, ch, ty, hs, bc, bt)) → wX_markParts_32 post (nI (ov_nc e)) (nI (ov_ac e)) so lo (m + 1) (nI m + (-1)) (ov_C (ov_cv e)) (ov_A (ov_st e)) (ov_A (ov_sc e)) (ov_A (ov_hd e)) (ov_A (ov_vs e)) (ov_A (ov_lt e)) (ov_A (ov_kd e)) (ov_A (ov_ct e)) (ov_A (ov_lf e)) (ov_A (ov_rt e)) tk s op ch ty hs bc bt := by
  have h12 := hw.1
  intro m
  induction m with
  | zero =>
    intro s f _ hs h
    exact br_t (by decide) (h s hs)
  | succ m ih =>
    intro s f hm hs h
    rw [pk_m1]
    have hi : vp_in (nI m) 12 := vp_in_nI (by omega) (by omega)
    have hN := hw.2.2.2.2.2.2.2.2.1 m (by omega)
    refine br_f (nI_pos (by omega)) ⟨hi, ov_pc (b := f m) (by rw [nI_clamp (by omega)]; exact hs m (by omega)) (fun hf => ?_) (fun hf => ⟨hi, pk_eq (ov_kd e m) 3 (fun h3 => ?_) (fun h3 => ?_) (ov_AV (by omega)) rfl (by have := hN.1; omega) (by omega)⟩)⟩
    · have hmk : ov_mk e (m + 1) f = ov_mk e m f := by
        show ov_mk e m (if f m = true ∧ ov_kd e m = 3 then _ else f) = _
        rw [if_neg (fun z => by rw [hf] at z; exact Bool.false_ne_true z.1)]
      rw [hmk] at h
      exact nm_e (ih s f (by omega) hs h)
    · have hmk : ov_mk e (m + 1) f = ov_mk e m (ov_u (ov_u f (ov_lf e m) true) (ov_rt e m) true) := by
        show ov_mk e m (if f m = true ∧ ov_kd e m = 3 then _ else f) = _
        rw [if_pos ⟨hf, h3⟩]
      rw [hmk] at h
      obtain ⟨_, hl, hr⟩ := hN.2.2.2 h3
      have il : vp_in (ov_A (ov_lf e) (nI m).toNatClampNeg) 12 := by rw [ov_AV (by omega)]; exact vp_in_nI (by omega) (by omega)
      have ir : vp_in (ov_A (ov_rt e) (nI m).toNatClampNeg) 12 := by rw [ov_AV (by omega)]; exact vp_in_nI (by omega) (by omega)
      refine ⟨hi, il, nm_r (e' := upd s (ov_lf e m) 1) (by rw [ov_AV (by omega), nI_clamp (by omega), ov_nb1]) ⟨hi, ir, nm_r (e' := upd (upd s (ov_lf e m) 1) (ov_rt e m) 1) (by rw [ov_AV (by omega), nI_clamp (by omega), ov_nb1]) (nm_e (ih _ _ (by omega) ?_ h))⟩⟩
      exact ov_up2 (ov_up2 (g := ov_u f (ov_lf e m) true) hs (by rw [ov_us]; rfl) (fun j hj => ov_un hj)) (by rw [ov_us]; rfl) (fun j hj => ov_un hj)
    · have hmk : ov_mk e (m + 1) f = ov_mk e m f := by
        show ov_mk e m (if f m = true ∧ ov_kd e m = 3 then _ else f) = _
        rw [if_neg (fun z => h3 z.2)]
      rw [hmk] at h
      exact nm_e (ih s f (by omega) hs h)
theorem ox_mark (hw : ov_W e) {node : Nat} (hn : node < ov_nc e) {post : SX → Prop} (h : ∀ s', (∀ j, j < 12 → s' j = ov_bI (ov_pb e node j)) → post (nI (ov_nc e), nI (ov_ac e), so, lo, ov_C (ov_cv e), ov_A (ov_st e), ov_A (ov_sc e), ov_A (ov_hd e), ov_A (ov_vs e), ov_A (ov_lt e), ov_A (ov_kd e), ov_A (ov_ct e), ov_A (ov_lf e), ov_A (ov_rt e), tk, s', op, ch, ty, hs, bc, bt)) : wpX_markParts post (nI (ov_nc e), nI (ov_ac e), so, lo, ov_C (ov_cv e), ov_A (ov_st e), ov_A (ov_sc e), ov_A (ov_hd e), ov_A (ov_vs e), ov_A (ov_lt e), ov_A (ov_kd e), ov_A (ov_ct e), ov_A (ov_lf e), ov_A (ov_rt e), tk, pt, op, ch, ty, hs, bc, bt) (nI node) := by
  have h12 := hw.1
  refine loop_0 (fun n i s => wX_markParts_2 post (nI node) (nI (ov_nc e)) (nI (ov_ac e)) so lo n (nI i) (ov_C (ov_cv e)) (ov_A (ov_st e)) (ov_A (ov_sc e)) (ov_A (ov_hd e)) (ov_A (ov_vs e)) (ov_A (ov_lt e)) (ov_A (ov_kd e)) (ov_A (ov_ct e)) (ov_A (ov_lf e)) (ov_A (ov_rt e)) tk s op ch ty hs bc bt) (fun i s => ∀ j, j < i → s j = ov_bI (decide (j = node))) 12 pt (fun j hj => absurd hj (by omega)) (fun n s hI => ?_) (fun n i s hi hI hk => ?_)
  · refine br_t (nI_le (a := 12) (Nat.le_refl _) (by omega)) ⟨node + 1 + 1, ?_⟩
    have := ox_mark_32 (tk := tk) (op := op) (ch := ch) (ty := ty) (hs := hs) (bc := bc) (bt := bt) (so := so) (lo := lo) hw (post := post) (node + 1) s _ (by omega) hI h
    rw [pk_m1] at this
    exact this
  · have hv : vp_in (nI i) 12 := vp_in_nI hi (by omega)
    refine br_f (nI_ge (b := 12) hi (by omega)) (pk_eq i node (fun h1 => ?_) (fun h1 => ?_))
    · exact ⟨hv, nm_r (e' := upd s i 1) (by rw [nI_clamp (by omega), ov_nb1]) (nm_r (nI_1 _) (hk _ (ov_up hI (by rw [decide_eq_true h1]; rfl))))⟩
    · exact ⟨hv, nm_r (e' := upd s i 0) (by rw [nI_clamp (by omega), ov_nb0]) (nm_r (nI_1 _) (hk _ (ov_up hI (by rw [decide_eq_false h1]; rfl))))⟩
end
def ov_bi (e : ov_E) (pb : Nat → Bool) (i j : Nat) : Nat := if j < 12 then (if j < i then ov_b e pb (ov_hc e) j else 1) else if ov_nm e pb (j - 12) i = true then 3 else 1
theorem ov_bi_12 {e : ov_E} {pb : Nat → Bool} {j : Nat} : ov_bi e pb 12 j = ov_b e pb (ov_hc e) j := by
  unfold ov_bi
  by_cases h : j < 12
  · rw [if_pos h, if_pos h]
  · rw [if_neg h]; unfold ov_b; rw [if_neg h]
theorem ov_bi_0 {e : ov_E} {pb : Nat → Bool} {j : Nat} : ov_bi e pb 0 j = 1 := by
  unfold ov_bi
  by_cases h : j < 12
  · rw [if_pos h, if_neg (by omega)]
  · rw [if_neg h]; exact if_neg Bool.false_ne_true
theorem ov_bi_lo {e : ov_E} {pb : Nat → Bool} {i j : Nat} (hj : j < 12) (h : j ≠ i) : ov_bi e pb (i + 1) j = ov_bi e pb i j := by
  unfold ov_bi
  rw [if_pos hj, if_pos hj]
  by_cases h1 : j < i
  · rw [if_pos h1, if_pos (by omega)]
  · rw [if_neg h1, if_neg (by omega)]
theorem ov_bi_i {e : ov_E} {pb : Nat → Bool} {i : Nat} (hi : i < 12) : ov_bi e pb (i + 1) i = ov_b e pb (ov_hc e) i ∧ ov_bi e pb i i = 1 := by
  unfold ov_bi
  rw [if_pos hi, if_pos hi, if_pos (by omega), if_neg (by omega)]
  exact ⟨rfl, rfl⟩
theorem ov_nm_skip {e : ov_E} {pb : Nat → Bool} {v i : Nat} (h : ¬ (pb i = true ∧ ov_kd e i = 1 ∧ ov_ct e i = v)) : ov_nm e pb v (i + 1) = ov_nm e pb v i := by
  show (ov_nm e pb v i || (pb i && decide (ov_kd e i = 1) && decide (ov_ct e i = v))) = _
  cases h1 : pb i with
  | false => rw [Bool.false_and, Bool.false_and, Bool.or_false]
  | true =>
    by_cases h2 : ov_kd e i = 1
    · rw [decide_eq_false (fun h3 => h ⟨h1, h2, h3⟩), Bool.and_false, Bool.or_false]
    · rw [decide_eq_false h2, Bool.and_false, Bool.false_and, Bool.or_false]
theorem ov_bi_hi {e : ov_E} {pb : Nat → Bool} {i j : Nat} (hj : ¬ j < 12) (h : ¬ (pb i = true ∧ ov_kd e i = 1 ∧ j = 12 + ov_ct e i)) : ov_bi e pb (i + 1) j = ov_bi e pb i j := by
  unfold ov_bi
  rw [if_neg hj, if_neg hj, ov_nm_skip (fun z => h ⟨z.1, z.2.1, by omega⟩)]
theorem ov_bi_same {e : ov_E} {pb : Nat → Bool} {i : Nat} (hi : i < 12) (hb : ov_b e pb (ov_hc e) i = 1) (hk : ¬ (pb i = true ∧ ov_kd e i = 1)) (j : Nat) : ov_bi e pb (i + 1) j = ov_bi e pb i j := by
  by_cases hj : j < 12
  · by_cases h : j = i
    · subst h; rw [(ov_bi_i hi).1, (ov_bi_i hi).2, hb]
    · exact ov_bi_lo hj h
  · exact ov_bi_hi hj (fun z => hk ⟨z.1, z.2.1⟩)
section
variable {e : ov_E} {tk pt op ch ty hs bc bt : Nat → Int32} {so lo : Int32}
theorem ox_sop (hw : ov_W e) {pb : Nat → Bool} {i : Nat} (hi : i < 12) (hn : i < ov_nc e) (hb : pb i = true) {s : Nat → Int32} (hs : ∀ j, j < 14 → s j = nI (ov_bi e pb i j)) {hs' : Nat → Int32} {post : SX → Prop} (h : ∀ s', (∀ j, j < 14 → s' j = nI (ov_bi e pb (i + 1) j)) → post (nI (ov_nc e), nI (ov_ac e), so, lo, ov_C (ov_cv e), ov_A (ov_st e), ov_A (ov_sc e), ov_A (ov_hd e), ov_A (ov_vs e), ov_A (ov_lt e), ov_A (ov_kd e), ov_A (ov_ct e), ov_A (ov_lf e), ov_A (ov_rt e), tk, pt, s', ch, ty, hs', bc, bt)) : wpX_setOptionsOfPart post (nI (ov_nc e), nI (ov_ac e), so, lo, ov_C (ov_cv e), ov_A (ov_st e), ov_A (ov_sc e), ov_A (ov_hd e), ov_A (ov_vs e), ov_A (ov_lt e), ov_A (ov_kd e), ov_A (ov_ct e), ov_A (ov_lf e), ov_A (ov_rt e), tk, pt, s, ch, ty, hs', bc, bt) (nI i) := by
  have hN := hw.2.2.2.2.2.2.2.2.1 i hn
  have hv : vp_in (nI i) 12 := vp_in_nI hi (by omega)
  have hv' : vp_in (nI i) 14 := vp_in_nI (by omega) (by omega)
  have hk3 := hN.1
  refine ⟨hv, nm_r (ov_AV (by omega)) (br_f (nI_pos (by omega)) (br_f (nI_nlt (b := ov_kd e i) (a := 3) hk3 (by omega)) ?_))⟩
  refine pk_eq (ov_kd e i) 0 (fun h0 => ?_) (fun h0 => pk_eq (ov_kd e i) 1 (fun h1 => ?_) (fun h1 => pk_eq (ov_kd e i) 2 (fun h2 => ?_) (fun h2 => pk_eq (ov_kd e i) 3 (fun h3 => ?_) (fun h3 => trivial))))
  · refine ⟨hv', nm_r (e' := upd s i 3) (by rw [nI_clamp (by omega)]) (h _ (fun j hj => ?_))⟩
    by_cases hji : j = i
    · subst hji; rw [pk_us, (ov_bi_i hi).1, ov_b_0 hi hb h0]; rfl
    · rw [pk_un hji, hs j hj]
      by_cases hj12 : j < 12
      · rw [ov_bi_lo hj12 hji]
      · rw [ov_bi_hi hj12 (fun z => by omega)]
  · have hc := hN.2.1 h1
    refine ⟨hv, ?_⟩
    rw [ov_AV (by omega), ov_ix12]
    refine ⟨vp_in_nI (by omega) (by omega), nm_r (e' := upd s (12 + ov_ct e i) 3) (by rw [nI_clamp (by omega)]) (h _ (fun j hj => ?_))⟩
    by_cases hji : j = 12 + ov_ct e i
    · subst hji
      rw [pk_us]
      unfold ov_bi
      rw [if_neg (by omega), show 12 + ov_ct e i - 12 = ov_ct e i by omega, if_pos (ov_nm_of hb h1 (i + 1) (by omega))]; rfl
    · rw [pk_un hji, hs j hj]
      by_cases hj12 : j < 12
      · by_cases hj' : j = i
        · subst hj'; rw [(ov_bi_i hi).1, (ov_bi_i hi).2, ov_b_1 hi (fun _ => Or.inl h1)]
        · rw [ov_bi_lo hj12 hj']
      · rw [ov_bi_hi hj12 (fun z => hji z.2.2)]
  · refine h _ (fun j hj => ?_)
    rw [hs j hj, ov_bi_same hi (ov_b_1 hi (fun _ => Or.inr h2)) (fun z => by omega)]
  · have hc := (hN.2.2.2 h3).1
    refine ⟨hv, ?_⟩
    rw [ov_AV (by omega), ov_AV (by omega)]
    refine ⟨vp_in_nI (by omega) (by omega), hv', nm_r (e' := upd s i (nI (ov_hd e (ov_ct e i)))) (by rw [nI_clamp (by omega)]) (h _ (fun j hj => ?_))⟩
    by_cases hji : j = i
    · subst hji; rw [pk_us, (ov_bi_i hi).1, ov_b_3 hi hb h3]; rfl
    · rw [pk_un hji, hs j hj]
      by_cases hj12 : j < 12
      · rw [ov_bi_lo hj12 hji]
      · rw [ov_bi_hi hj12 (fun z => by omega)]
theorem ox_setOptions (hw : ov_W e) {pb : Nat → Bool} {node : Nat} (hp : ov_P1 e pb node) (hpt : ∀ j, j < 12 → pt j = ov_bI (pb j)) {post : SX → Prop} (h : ∀ o c, (∀ j, j < 14 → o j = nI (ov_b e pb (ov_hc e) j)) → (∀ j, j < 14 → c j = 0) → post (nI (ov_nc e), nI (ov_ac e), so, lo, ov_C (ov_cv e), ov_A (ov_st e), ov_A (ov_sc e), ov_A (ov_hd e), ov_A (ov_vs e), ov_A (ov_lt e), ov_A (ov_kd e), ov_A (ov_ct e), ov_A (ov_lf e), ov_A (ov_rt e), tk, pt, o, c, ty, hs, bc, bt)) : wpX_setOptions post (nI (ov_nc e), nI (ov_ac e), so, lo, ov_C (ov_cv e), ov_A (ov_st e), ov_A (ov_sc e), ov_A (ov_hd e), ov_A (ov_vs e), ov_A (ov_lt e), ov_A (ov_kd e), ov_A (ov_ct e), ov_A (ov_lf e), ov_A (ov_rt e), tk, pt, op, ch, ty, hs, bc, bt) := by
  refine loop_0 (fun n i s => wX_setOptions_2 post (nI (ov_nc e)) (nI (ov_ac e)) so lo n (nI i) (ov_C (ov_cv e)) (ov_A (ov_st e)) (ov_A (ov_sc e)) (ov_A (ov_hd e)) (ov_A (ov_vs e)) (ov_A (ov_lt e)) (ov_A (ov_kd e)) (ov_A (ov_ct e)) (ov_A (ov_lf e)) (ov_A (ov_rt e)) tk pt s.1 s.2 ty hs bc bt) (fun i s => (∀ j, j < i → s.1 j = 1) ∧ (∀ j, j < i → s.2 j = 0)) 14 (op, ch) ⟨fun j hj => absurd hj (by omega), fun j hj => absurd hj (by omega)⟩ (fun n s hI => ?_) (fun n i s hi hI hk => ?_)
  · refine br_t (nI_le (a := 14) (Nat.le_refl _) (by omega)) ?_
    refine loop_0 (fun n i o => wX_setOptions_30 post n (nI i) (nI (ov_nc e)) (nI (ov_ac e)) so lo (ov_C (ov_cv e)) (ov_A (ov_st e)) (ov_A (ov_sc e)) (ov_A (ov_hd e)) (ov_A (ov_vs e)) (ov_A (ov_lt e)) (ov_A (ov_kd e)) (ov_A (ov_ct e)) (ov_A (ov_lf e)) (ov_A (ov_rt e)) tk pt o s.2 ty hs bc bt) (fun i o => ∀ j, j < 14 → o j = nI (ov_bi e pb i j)) 12 s.1 (fun j hj => by rw [hI.1 j hj, ov_bi_0]; rfl) (fun n o hO => ?_) (fun n i o hi hO hk => ?_)
    · exact br_t (nI_le (a := 12) (Nat.le_refl _) (by omega)) (h o s.2 (fun j hj => by rw [hO j hj, ov_bi_12]) hI.2)
    · refine br_f (nI_ge (b := 12) hi (by omega)) ⟨vp_in_nI hi (by omega), ov_pc (b := pb i) (by rw [nI_clamp (by omega)]; exact hpt i hi) (fun hb => ?_) (fun hb => ?_)⟩
      · refine nm_r (nI_1 _) (hk o (fun j hj => ?_))
        rw [hO j hj, ov_bi_same hi (ov_b_1 hi (fun z => by rw [hb] at z; exact absurd z Bool.false_ne_true)) (fun z => by rw [hb] at z; exact Bool.false_ne_true z.1)]
      · have hn : i < ov_nc e := by have := hp.2.1 i hb; have := hp.1; omega
        exact ox_sop hw hi hn hb hO (fun o' ho' => nm_r (nI_1 _) (hk o' ho'))
  · have hv : vp_in (nI i) 14 := vp_in_nI hi (by omega)
    refine br_f (nI_ge (b := 14) hi (by omega)) ⟨hv, nm_r (e' := upd s.1 i 1) (by rw [nI_clamp (by omega)]) ⟨hv, nm_r (e' := upd s.2 i 0) (by rw [nI_clamp (by omega)]) (nm_r (nI_1 _) (hk (_, _) ⟨ov_up (f := fun _ => 1) hI.1 rfl, ov_up (f := fun _ => 0) hI.2 rfl⟩))⟩⟩
theorem ox_forgetSolutions {post : SX → Prop} (h : ∀ s, (∀ j, j < 127 → s j = 0) → post (nI (ov_nc e), nI (ov_ac e), 0, -1, ov_C (ov_cv e), ov_A (ov_st e), ov_A (ov_sc e), ov_A (ov_hd e), ov_A (ov_vs e), ov_A (ov_lt e), ov_A (ov_kd e), ov_A (ov_ct e), ov_A (ov_lf e), ov_A (ov_rt e), tk, pt, op, ch, ty, s, bc, bt)) : wpX_forgetSolutions post (nI (ov_nc e), nI (ov_ac e), so, lo, ov_C (ov_cv e), ov_A (ov_st e), ov_A (ov_sc e), ov_A (ov_hd e), ov_A (ov_vs e), ov_A (ov_lt e), ov_A (ov_kd e), ov_A (ov_ct e), ov_A (ov_lf e), ov_A (ov_rt e), tk, pt, op, ch, ty, hs, bc, bt) := by
  refine loop_0 (fun n i s => wX_forgetSolutions_2 post (nI (ov_nc e)) (nI (ov_ac e)) so lo n (nI i) (ov_C (ov_cv e)) (ov_A (ov_st e)) (ov_A (ov_sc e)) (ov_A (ov_hd e)) (ov_A (ov_vs e)) (ov_A (ov_lt e)) (ov_A (ov_kd e)) (ov_A (ov_ct e)) (ov_A (ov_lf e)) (ov_A (ov_rt e)) tk pt op ch ty s bc bt) (fun i s => ∀ j, j < i → s j = 0) 127 hs (fun j hj => absurd hj (by omega)) (fun n s hI => ?_) (fun n i s hi hI hk => ?_)
  · exact br_t (nI_le (a := 127) (Nat.le_refl _) (by omega)) (h s hI)
  · exact br_f (nI_ge (b := 127) hi (by omega)) ⟨vp_in_nI hi (by omega), nm_r (e' := upd s i 0) (by rw [nI_clamp (by omega)]) (nm_r (nI_1 _) (hk _ (ov_up (f := fun _ => 0) hI rfl)))⟩
theorem ox_waysToChoose {b : Nat → Nat} (ho : ∀ j, j < 14 → op j = nI (b j)) {post : Int32 → Prop} (h : post (nI (ov_P b 14))) : wpX_waysToChoose post (nI (ov_nc e), nI (ov_ac e), so, lo, ov_C (ov_cv e), ov_A (ov_st e), ov_A (ov_sc e), ov_A (ov_hd e), ov_A (ov_vs e), ov_A (ov_lt e), ov_A (ov_kd e), ov_A (ov_ct e), ov_A (ov_lf e), ov_A (ov_rt e), tk, pt, op, ch, ty, hs, bc, bt) := by
  refine loop_0 (fun n i (_ : Unit) => wX_waysToChoose_4 post (nI (ov_nc e)) (nI (ov_ac e)) so lo (ov_C (ov_cv e)) (ov_A (ov_st e)) (ov_A (ov_sc e)) (ov_A (ov_hd e)) (ov_A (ov_vs e)) (ov_A (ov_lt e)) (ov_A (ov_kd e)) (ov_A (ov_ct e)) (ov_A (ov_lf e)) (ov_A (ov_rt e)) tk pt op ch ty hs bc bt n (nI (ov_P b i)) (nI i)) (fun _ _ => True) 14 () trivial (fun n s _ => ?_) (fun n i s hi _ hk => ?_)
  · exact br_t (nI_le (a := 14) (Nat.le_refl _) (by omega)) h
  · exact br_f (nI_ge (b := 14) hi (by omega)) ⟨vp_in_nI hi (by omega), nm_r (e' := nI (ov_P b (i + 1))) (by rw [nI_clamp (by omega), ho i hi, pk_mul]; rfl) (nm_r (nI_1 _) (hk () trivial))⟩
theorem ox_nextChoices {b : Nat → Nat} (hb4 : ∀ j, b j ≤ 4) (ho : ∀ j, j < 14 → op j = nI (b j)) {w : Nat} (hw : w < ov_P b 14) (hc : ∀ j, j < 14 → ch j = nI (ov_dg b w j)) {post : SX → Prop} (h : ∀ c, (∀ j, j < 14 → c j = nI (ov_dg b (w + 1) j)) → post (nI (ov_nc e), nI (ov_ac e), so, lo, ov_C (ov_cv e), ov_A (ov_st e), ov_A (ov_sc e), ov_A (ov_hd e), ov_A (ov_vs e), ov_A (ov_lt e), ov_A (ov_kd e), ov_A (ov_ct e), ov_A (ov_lf e), ov_A (ov_rt e), tk, pt, op, c, ty, hs, bc, bt)) : wpX_nextChoices post (nI (ov_nc e), nI (ov_ac e), so, lo, ov_C (ov_cv e), ov_A (ov_st e), ov_A (ov_sc e), ov_A (ov_hd e), ov_A (ov_vs e), ov_A (ov_lt e), ov_A (ov_kd e), ov_A (ov_ct e), ov_A (ov_lf e), ov_A (ov_rt e), tk, pt, op, ch, ty, hs, bc, bt) := by
  refine loop_0 (fun n i s => wX_nextChoices_2 post (nI (ov_nc e)) (nI (ov_ac e)) so lo n (nI i) (ov_C (ov_cv e)) (ov_A (ov_st e)) (ov_A (ov_sc e)) (ov_A (ov_hd e)) (ov_A (ov_vs e)) (ov_A (ov_lt e)) (ov_A (ov_kd e)) (ov_A (ov_ct e)) (ov_A (ov_lf e)) (ov_A (ov_rt e)) tk pt op s ty hs bc bt) (fun i s => ov_P b i ∣ w + 1 ∧ ∀ j, j < 14 → s j = nI (if j < i then 0 else ov_dg b w j)) 14 ch ⟨Nat.one_dvd _, fun j hj => by rw [if_neg (by omega)]; exact hc j hj⟩ (fun n s hI => ?_) (fun n i s hi hI hk => ?_)
  · refine br_t (nI_le (a := 14) (Nat.le_refl _) (by omega)) (h s (fun j hj => ?_))
    rw [hI.2 j hj, if_pos hj, ov_nx0 (ov_P_pos (Nat.le_of_lt hj) (by omega)) (Nat.dvd_trans (ov_P_dvd2 (show j + 1 ≤ 14 from hj)) hI.1)]
  · have hv : vp_in (nI i) 14 := vp_in_nI hi (by omega)
    have hp : 0 < ov_P b i := ov_P_pos (Nat.le_of_lt hi) (by omega)
    have hbi : 0 < b i := ov_b_pos hi (by omega)
    have hd := ov_dg_lt hw hi
    have h4 := hb4 i
    have hsi : s i = nI (ov_dg b w i) := by rw [hI.2 i hi, if_neg (by omega)]
    refine br_f (nI_ge (b := 14) hi (by omega)) ⟨hv, hv, nm_r (e' := upd s i (nI (ov_dg b w i + 1))) (by rw [nI_clamp (by omega), hsi, nI_1]) ⟨hv, hv, ?_⟩⟩
    refine pk_le (b i) (ov_dg b w i + 1) (fun hge => ?_) (fun hlt => ?_) (by rw [nI_clamp (by omega)]; exact ho i hi) (by rw [nI_clamp (by omega), pk_us]) (by omega) (by omega)
    · refine ⟨hv, nm_r (e' := upd (upd s i (nI (ov_dg b w i + 1))) i 0) (by rw [nI_clamp (by omega)]) (nm_r (nI_1 _) (hk _ ⟨ov_nx1 hp hbi hI.1 hge, fun j hj => ?_⟩))⟩
      by_cases hji : j = i
      · subst hji; rw [pk_us, if_pos (by omega)]; rfl
      · rw [pk_un hji, pk_un hji, hI.2 j hj]
        by_cases h1 : j < i
        · rw [if_pos h1, if_pos (by omega)]
        · rw [if_neg h1, if_neg (by omega)]
    · refine h _ (fun j hj => ?_)
      by_cases hji : j = i
      · subst hji; rw [pk_us, ov_nx2 hp hI.1 hlt]
      · rw [pk_un hji, hI.2 j hj]
        by_cases h1 : j < i
        · rw [if_pos h1, ov_nx0 (ov_P_pos (Nat.le_of_lt hj) (by omega)) (Nat.dvd_trans (ov_P_dvd2 (show j + 1 ≤ i from h1)) hI.1)]
        · rw [if_neg h1, ov_nx3 hp hI.1 hlt (by omega)]
end
end
section
/-! X: the cost of a way, the survey -/
theorem ov_tab : ∀ s : Fin 8, ∀ t : Fin 3, ((nI s.val >>> (nI t.val &&& 31)) &&& 1) = nI (s.val / 2 ^ t.val % 2) := by decide +kernel
theorem ov_tab2 {s t : Nat} (hs : s < 8) (ht : t < 3) : ((nI s >>> (nI t &&& 31)) &&& 1) = nI (s / 2 ^ t % 2) := ov_tab ⟨s, hs⟩ ⟨t, ht⟩
theorem ox_holds {post : Int32 → Prop} {s t : Nat} (hs : s < 8) (ht : t < 3) (h : post (ov_bI (ov_bit s t))) : wpX_holds post (nI s) (nI t) := by
  have h2 : s / 2 ^ t % 2 < 2 := Nat.mod_lt _ (by decide)
  unfold ov_bit at h
  refine pk_eq (s / 2 ^ t % 2) 1 (fun h1 => ?_) (fun h1 => ?_) (ov_tab2 hs ht) rfl (by omega) (by omega)
  · rw [decide_eq_true h1] at h; exact h
  · rw [decide_eq_false h1] at h; exact h
theorem ov_cp_0 {e : ov_E} {d : Nat → Nat} {n : Nat} (h : ov_kd e n = 0) : ov_cp e d n = (if ov_bit (ov_ct e n) (d n) = true then some (ov_lt e (d n)) else none) ∧ ov_ty e d n = d n := by
  unfold ov_cp ov_ty; rw [if_pos h, if_pos h]; exact ⟨rfl, rfl⟩
theorem ov_cp_1 {e : ov_E} {d : Nat → Nat} {n : Nat} (h : ov_kd e n = 1) : ov_cp e d n = (if ov_bit (ov_vs e (ov_ct e n)) (d (12 + ov_ct e n)) = true then some 0 else none) ∧ ov_ty e d n = d (12 + ov_ct e n) := by
  have h0 : ¬ ov_kd e n = 0 := by omega
  exact ⟨by unfold ov_cp; rw [if_neg h0, if_pos h], by unfold ov_ty; rw [if_neg h0, if_pos h]⟩
theorem ov_cp_2 {e : ov_E} {d : Nat → Nat} {n : Nat} (h : ov_kd e n = 2) : ov_cp e d n = some 0 ∧ ov_ty e d n = ov_ct e n := by
  have h0 : ¬ ov_kd e n = 0 := by omega
  have h1 : ¬ ov_kd e n = 1 := by omega
  exact ⟨by unfold ov_cp; rw [if_neg h0, if_neg h1, if_pos h], by unfold ov_ty; rw [if_neg h0, if_neg h1, if_pos h]⟩
theorem ov_cp_3 {e : ov_E} {d : Nat → Nat} {n : Nat} (h : ov_kd e n = 3) (hd : d n < ov_hd e (ov_ct e n)) : ov_cp e d n = ov_ca e (4 * ov_ct e n + d n) (ov_ty e d (ov_lf e n)) (ov_ty e d (ov_rt e n)) := by
  unfold ov_cp; rw [if_neg (by omega), if_neg (by omega), if_neg (by omega), if_pos hd]
theorem ov_ty_33 {e : ov_E} {d : Nat → Nat} {n : Nat} (h : ov_kd e n = 3) : ov_ty e d n = ov_st e (4 * ov_ct e n + d n) % 3 := by
  unfold ov_ty; rw [if_neg (by omega), if_neg (by omega), if_neg (by omega)]
theorem ov_sm_s {e : ov_E} {pb : Nat → Bool} {d : Nat → Nat} {k : Nat} (h : pb k = true) : ov_sm e pb d (k + 1) = ov_pl (ov_sm e pb d k) (ov_cp e d k) := if_pos h
theorem ov_sm_f {e : ov_E} {pb : Nat → Bool} {d : Nat → Nat} {k : Nat} (h : pb k = false) : ov_sm e pb d (k + 1) = ov_sm e pb d k := if_neg (by rw [h]; exact Bool.false_ne_true)
theorem ov_sm_n {e : ov_E} {pb : Nat → Bool} {d : Nat → Nat} {k : Nat} (h : ov_sm e pb d k = none) : ∀ r, ov_sm e pb d (k + r) = none := by
  intro r
  induction r with
  | zero => exact h
  | succ r ih =>
    cases hb : pb (k + r) with
    | false => exact (ov_sm_f hb).trans ih
    | true => exact (ov_sm_s hb).trans (by rw [ih, ov_pl_n'])
theorem ov_co_n {e : ov_E} {pb : Nat → Bool} {node wanted : Nat} {d : Nat → Nat} {k : Nat} (hk : k ≤ node + 1) (h : ov_sm e pb d k = none) : ov_co e pb node wanted d = none := by
  have h1 := ov_sm_n h (node + 1 - k)
  rw [show k + (node + 1 - k) = node + 1 by omega] at h1
  unfold ov_co
  rw [h1, ov_pl_n']
  split <;> rfl
section
variable {e : ov_E} {tk pt op ch ty hs bc bt : Nat → Int32} {so lo : Int32}
theorem ox_costOfApplication (hw : ov_W e) {d : Nat → Nat} {n : Nat} (hn : n < ov_nc e) (hk : ov_kd e n = 3) (hch : ch n = nI (d n)) (hd : d n < ov_hd e (ov_ct e n)) (hl : ty (ov_lf e n) = nI (ov_ty e d (ov_lf e n))) (hl3 : ov_ty e d (ov_lf e n) < 3) (hr : ty (ov_rt e n) = nI (ov_ty e d (ov_rt e n))) (hr3 : ov_ty e d (ov_rt e n) < 3) {post : Int32 → SX → Prop} (hp : post (ov_o (ov_cp e d n)) (nI (ov_nc e), nI (ov_ac e), so, lo, ov_C (ov_cv e), ov_A (ov_st e), ov_A (ov_sc e), ov_A (ov_hd e), ov_A (ov_vs e), ov_A (ov_lt e), ov_A (ov_kd e), ov_A (ov_ct e), ov_A (ov_lf e), ov_A (ov_rt e), tk, pt, op, ch, upd ty n (nI (ov_ty e d n)), hs, bc, bt)) : wpX_costOfApplication post (nI (ov_nc e), nI (ov_ac e), so, lo, ov_C (ov_cv e), ov_A (ov_st e), ov_A (ov_sc e), ov_A (ov_hd e), ov_A (ov_vs e), ov_A (ov_lt e), ov_A (ov_kd e), ov_A (ov_ct e), ov_A (ov_lf e), ov_A (ov_rt e), tk, pt, op, ch, ty, hs, bc, bt) (nI n) := by
  have h12 := hw.1
  obtain ⟨hc3, hln, hrn⟩ := (hw.2.2.2.2.2.2.2.2.1 n hn).2.2.2 hk
  have hv : vp_in (nI n) 12 := vp_in_nI (by omega) (by omega)
  have hv' : vp_in (nI n) 14 := vp_in_nI (by omega) (by omega)
  have h4 := hw.2.2.2.2.1 (ov_ct e n)
  rw [ov_cp_3 hk hd, ov_ty_33 hk] at hp
  generalize hi : 4 * ov_ct e n + d n = i at hp
  have hi12 : i < 12 := by omega
  have hvi : vp_in (nI i) 12 := vp_in_nI hi12 (by omega)
  have ht := hw.2.2.1 i
  generalize htl : ov_ty e d (ov_lf e n) = tl at hp hl hl3
  generalize htr : ov_ty e d (ov_rt e n) = tr at hp hr hr3
  have hL : 3 * (upd ty n (nI (ov_st e i % 3)) (ov_A (ov_lf e) (nI n).toNatClampNeg).toNatClampNeg) + nI (ov_st e i / 9) = nI (3 * tl + ov_st e i / 9) := by
    rw [ov_AV (by omega), nI_clamp (by omega), pk_un (by omega), hl, ov_ix3]
  have hR : 3 * (upd ty n (nI (ov_st e i % 3)) (ov_A (ov_rt e) (nI n).toNatClampNeg).toNatClampNeg) + nI (ov_st e i / 3 % 3) = nI (3 * tr + ov_st e i / 3 % 3) := by
    rw [ov_AV (by omega), nI_clamp (by omega), pk_un (by omega), hr, ov_ix3]
  refine ⟨hv, hv', nm_r (e' := nI i) (by rw [ov_AV (by omega), nI_clamp (by omega), hch, ov_ix4, hi]) ⟨hvi, nm_r (ov_AV (by omega)) ⟨ov_93, nm_r (ov_div9 (by omega)) ⟨ov_33, ov_33, nm_r (ov_rem33 (by omega)) ⟨ov_33, hv, nm_r (e' := upd ty n (nI (ov_st e i % 3))) (by rw [ov_rem3 (by omega), nI_clamp (by omega)]) ?_⟩⟩⟩⟩⟩
  refine ⟨hv, by rw [ov_AV (by omega)]; exact vp_in_nI (by omega) (by omega), by rw [hL]; exact vp_in_nI (by omega) (by omega), nm_r (e' := ov_o (ov_cv e (3 * tl + ov_st e i / 9))) (by rw [hL, nI_clamp (by omega)]; rfl) ?_⟩
  refine ⟨hv, by rw [ov_AV (by omega)]; exact vp_in_nI (by omega) (by omega), by rw [hR]; exact vp_in_nI (by omega) (by omega), nm_r (e' := ov_o (ov_cv e (3 * tr + ov_st e i / 3 % 3))) (by rw [hR, nI_clamp (by omega)]; rfl) ?_⟩
  unfold ov_ca at hp
  cases hA : ov_cv e (3 * tl + ov_st e i / 9) with
  | none =>
    rw [hA, ov_pl_n, ov_pl_n'] at hp
    exact br_t rfl hp
  | some a =>
    have ha := hw.2.1 _ _ hA
    rw [hA] at hp
    cases hB : ov_cv e (3 * tr + ov_st e i / 3 % 3) with
    | none =>
      rw [hB, ov_pl_n] at hp
      exact br_f (ov_m1n (by omega)) (br_t rfl hp)
    | some b =>
      have hb := hw.2.1 _ _ hB
      rw [hB] at hp
      refine br_f (ov_m1n (by omega)) (br_f (ov_m1n (by omega)) ⟨hvi, ?_⟩)
      have he : ov_A (ov_sc e) (nI i).toNatClampNeg + ov_o (some a) + ov_o (some b) = ov_o (ov_pl (ov_pl (some (ov_sc e i)) (some a)) (some b)) := by
        rw [ov_AV (by omega)]
        show nI _ + nI _ + nI _ = nI _
        rw [nI_add, nI_add]
      rw [he]
      exact hp
theorem ox_costOfPart (hw : ov_W e) {pb : Nat → Bool} {node : Nat} (hpb : ov_P1 e pb node) {d : Nat → Nat} (hD : ov_D e pb d) {n : Nat} (hn : pb n = true) (hch : ∀ j, j < 14 → ch j = nI (d j)) (hd : ov_kd e n = 3 → d n < ov_hd e (ov_ct e n)) (hty : ∀ j, j < n → pb j = true → ty j = nI (ov_ty e d j)) {post : Int32 → SX → Prop} (hp : post (ov_o (ov_cp e d n)) (nI (ov_nc e), nI (ov_ac e), so, lo, ov_C (ov_cv e), ov_A (ov_st e), ov_A (ov_sc e), ov_A (ov_hd e), ov_A (ov_vs e), ov_A (ov_lt e), ov_A (ov_kd e), ov_A (ov_ct e), ov_A (ov_lf e), ov_A (ov_rt e), tk, pt, op, ch, upd ty n (nI (ov_ty e d n)), hs, bc, bt)) : wpX_costOfPart post (nI (ov_nc e), nI (ov_ac e), so, lo, ov_C (ov_cv e), ov_A (ov_st e), ov_A (ov_sc e), ov_A (ov_hd e), ov_A (ov_vs e), ov_A (ov_lt e), ov_A (ov_kd e), ov_A (ov_ct e), ov_A (ov_lf e), ov_A (ov_rt e), tk, pt, op, ch, ty, hs, bc, bt) (nI n) := by
  have h12 := hw.1
  have hn1 := hpb.2.1 n hn
  have hn2 := hpb.1
  have hN := hw.2.2.2.2.2.2.2.2.1 n (by omega)
  have hk3 := hN.1
  have hDn := hD n hn
  have hct := hw.2.2.2.2.2.2.2.1 n
  have hv : vp_in (nI n) 12 := vp_in_nI (by omega) (by omega)
  have hv' : vp_in (nI n) 14 := vp_in_nI (by omega) (by omega)
  have hcn : ch (nI n).toNatClampNeg = nI (d n) := by rw [nI_clamp (by omega)]; exact hch n (by omega)
  refine ⟨hv, nm_r (ov_AV (by omega)) (br_f (nI_pos (by omega)) (pk_lt 2 (ov_kd e n) (fun h2 => ?_) (fun h2 => pk_eq (ov_kd e n) 0 (fun h0 => ?_) (fun h0 => pk_eq (ov_kd e n) 1 (fun h1 => ?_) (fun h1 => pk_eq (ov_kd e n) 2 (fun h3 => ?_) (fun _ => trivial))))))⟩
  · have h3 : ov_kd e n = 3 := by omega
    obtain ⟨_, hl, hr⟩ := hN.2.2.2 h3
    have hlr := hpb.2.2.2.1 n (Nat.zero_le _) hn h3
    exact ox_costOfApplication hw (by omega) h3 (hch n (by omega)) (hd h3) (hty _ hl hlr.1) (ov_ty_3 hw hpb hD hlr.1) (hty _ hr hlr.2) (ov_ty_3 hw hpb hD hlr.2) hp
  · have hdn := hDn.1 h0
    rw [(ov_cp_0 h0).1, (ov_cp_0 h0).2] at hp
    refine ⟨hv', hv, nm_r (e' := upd ty n (nI (d n))) (by rw [hcn, nI_clamp (by omega)]) ⟨hv, hv', ?_⟩⟩
    rw [ov_AV (by omega), hcn]
    refine ox_holds hct hdn (ov_pc rfl (fun hb => ?_) (fun hb => ⟨hv', vp_in_nI hdn (by omega), ?_⟩))
    · rw [if_neg (by rw [hb]; exact Bool.false_ne_true)] at hp; exact hp
    · rw [if_pos hb] at hp
      rw [ov_AV (by omega)]; exact hp
  · have hdn := hDn.2.1 h1
    have hc2 := hN.2.1 h1
    rw [(ov_cp_1 h1).1, (ov_cp_1 h1).2] at hp
    have hcv : ch (12 + ov_A (ov_ct e) (nI n).toNatClampNeg).toNatClampNeg = nI (d (12 + ov_ct e n)) := by
      rw [ov_AV (by omega), ov_ix12, nI_clamp (by omega)]; exact hch _ (by omega)
    refine ⟨hv, by rw [ov_AV (by omega), ov_ix12]; exact vp_in_nI (by omega) (by omega), nm_r hcv ⟨hv, nm_r (e' := upd ty n (nI (d (12 + ov_ct e n)))) (by rw [nI_clamp (by omega)]) ⟨hv, ?_⟩⟩⟩
    rw [ov_AV (by omega), ov_AV (by omega)]
    refine ⟨vp_in_nI hc2 (by omega), ox_holds (hw.2.2.2.2.2.1 _) hdn (ov_pc rfl (fun hb => ?_) (fun hb => ?_))⟩
    · rw [if_neg (by rw [hb]; exact Bool.false_ne_true)] at hp; exact hp
    · rw [if_pos hb] at hp; exact hp
  · rw [(ov_cp_2 h3).1, (ov_cp_2 h3).2] at hp
    exact ⟨hv, hv, nm_r (e' := upd ty n (nI (ov_ct e n))) (by rw [ov_AV (by omega), nI_clamp (by omega)]) hp⟩
theorem ox_costOfChoices (hw : ov_W e) {pb : Nat → Bool} {node wanted : Nat} (hpb : ov_P1 e pb node) (hwa : wanted ≤ 3) (hpt : ∀ j, j < 12 → pt j = ov_bI (pb j)) {d : Nat → Nat} (hD : ov_D e pb d) (hch : ∀ j, j < 14 → ch j = nI (d j)) (hd : ∀ n, pb n = true → ov_kd e n = 3 → d n < ov_hd e (ov_ct e n)) {post : Int32 → SX → Prop} (hp : ∀ ty', (∀ c, ov_co e pb node wanted d = some c → ∀ j, pb j = true → ty' j = nI (ov_ty e d j)) → post (ov_o (ov_co e pb node wanted d)) (nI (ov_nc e), nI (ov_ac e), so, lo, ov_C (ov_cv e), ov_A (ov_st e), ov_A (ov_sc e), ov_A (ov_hd e), ov_A (ov_vs e), ov_A (ov_lt e), ov_A (ov_kd e), ov_A (ov_ct e), ov_A (ov_lf e), ov_A (ov_rt e), tk, pt, op, ch, ty', hs, bc, bt)) : wpX_costOfChoices post (nI (ov_nc e), nI (ov_ac e), so, lo, ov_C (ov_cv e), ov_A (ov_st e), ov_A (ov_sc e), ov_A (ov_hd e), ov_A (ov_vs e), ov_A (ov_lt e), ov_A (ov_kd e), ov_A (ov_ct e), ov_A (ov_lf e), ov_A (ov_rt e), tk, pt, op, ch, ty, hs, bc, bt) (nI node) (nI wanted) := by
  have h12 := hw.1
  have hn2 := hpb.1
  refine loop_0 (fun n i s => wX_costOfChoices_5 post (nI node) (nI wanted) n (nI s.1) (nI i) (nI (ov_nc e)) (nI (ov_ac e)) so lo (ov_C (ov_cv e)) (ov_A (ov_st e)) (ov_A (ov_sc e)) (ov_A (ov_hd e)) (ov_A (ov_vs e)) (ov_A (ov_lt e)) (ov_A (ov_kd e)) (ov_A (ov_ct e)) (ov_A (ov_lf e)) (ov_A (ov_rt e)) tk pt op ch s.2 hs bc bt) (fun i s => ov_sm e pb d i = some s.1 ∧ ∀ j, j < i → pb j = true → s.2 j = nI (ov_ty e d j)) (node + 1) ((0 : Nat), ty) ⟨rfl, fun j hj => absurd hj (by omega)⟩ (fun n s hI => ?_) (fun n i s hi hI hk => ?_)
  · obtain ⟨sm, ty1⟩ := s
    obtain ⟨hs, ht⟩ := hI
    dsimp only at hs ht
    have ht' : ∀ j, pb j = true → ty1 j = nI (ov_ty e d j) := fun j hj => ht j (by have := hpb.2.1 j hj; omega) hj
    have hnode := ht' node hpb.2.2.1
    have hty3 := ov_ty_3 hw hpb hD hpb.2.2.1
    have h1 := hp ty1 (fun _ _ => ht')
    unfold ov_co at h1
    rw [hs] at h1
    refine br_t (nI_lt (by omega) (by omega)) (pk_eq wanted 3 (fun h3 => ?_) (fun h3 => ?_))
    · rw [if_pos h3] at h1; exact h1
    · rw [if_neg h3] at h1
      have hix : 3 * ty1 (nI node).toNatClampNeg + nI wanted = nI (3 * ov_ty e d node + wanted) := by
        rw [nI_clamp (by omega), hnode, ov_ix3]
      refine ⟨vp_in_nI (by omega) (by omega), by rw [hix]; exact vp_in_nI (by omega) (by omega), nm_r (e' := ov_o (ov_cv e (3 * ov_ty e d node + wanted))) (by rw [hix, nI_clamp (by omega)]; rfl) ?_⟩
      cases hA : ov_cv e (3 * ov_ty e d node + wanted) with
      | none => rw [hA, ov_pl_n] at h1; exact br_t rfl h1
      | some a =>
        have := hw.2.1 _ _ hA
        rw [hA] at h1
        refine br_f (ov_m1n (by omega)) ?_
        have he : nI sm + ov_o (some a) = ov_o (ov_pl (some sm) (some a)) := nI_add _ _
        rw [he]; exact h1
  · obtain ⟨sm, ty1⟩ := s
    obtain ⟨hs, ht⟩ := hI
    dsimp only at hs ht
    refine br_f (nI_nlt (by omega) (by omega)) ⟨vp_in_nI (by omega) (by omega), ov_pc (b := pb i) (by rw [nI_clamp (by omega)]; exact hpt i (by omega)) (fun hb => ?_) (fun hb => ?_)⟩
    · refine nm_r (nI_1 _) (hk (sm, ty1) ⟨(ov_sm_f hb).trans hs, fun j hj hpj => ?_⟩)
      by_cases hji : j = i
      · subst hji; rw [hb] at hpj; exact absurd hpj Bool.false_ne_true
      · exact ht j (by omega) hpj
    · refine ox_costOfPart hw hpb hD hb hch (hd i hb) ht ?_
      have hty' : ∀ j, j < i + 1 → pb j = true → upd ty1 i (nI (ov_ty e d i)) j = nI (ov_ty e d j) := fun j hj hpj => by
        by_cases hji : j = i
        · subst hji; exact pk_us
        · rw [pk_un hji]; exact ht j (by omega) hpj
      have hsm : ov_sm e pb d (i + 1) = ov_pl (some sm) (ov_cp e d i) := by rw [ov_sm_s hb, hs]
      have hN := hw.2.2.2.2.2.2.2.2.1 i (by omega)
      cases hc : ov_cp e d i with
      | none =>
        rw [hc, ov_pl_n] at hsm
        have hco := ov_co_n (wanted := wanted) (node := node) (by omega) hsm
        have h1 := hp (upd ty1 i (nI (ov_ty e d i))) (fun c h => by rw [hco] at h; cases h)
        rw [hco] at h1
        exact br_t rfl h1
      | some c =>
        have hc27 := ov_cp_le hw hN.1 hc
        have hc28 : c < 2 ^ 31 := by
          split at hc27 <;> omega
        rw [hc] at hsm
        exact br_f (ov_m1n hc28) (nm_r (e' := nI (sm + c)) (nI_add _ _) (nm_r (nI_1 _) (hk (sm + c, _) ⟨hsm, hty'⟩)))
end
def ov_XC (e : ov_E) (pb : Nat → Bool) (t : ov_T) (so lo : Int32) (hs bc bt : Nat → Int32) : Prop := so = nI t.1 ∧ (t.1 ≠ 0 → lo = nI t.2.1 ∧ (∀ j, j < 12 → bc j = nI (t.2.2.1 j)) ∧ (∀ j, pb j = true → bt j = nI (ov_ty e t.2.2.1 j))) ∧ (∀ j, j < 127 → hs j = nI (t.2.2.2 j))
section
variable {e : ov_E} {tk pt op ch ty hs bc bt : Nat → Int32} {so lo : Int32}
theorem ox_note_58 {post : SX → Prop} {c z : Nat} (hc : c < 127) (hz : so = nI z) {f : Nat → Nat} (hh : ∀ j, j < 127 → hs j = nI (f j)) (h : ∀ hs', (∀ j, j < 127 → hs' j = nI (ov_u f c (f c + 1) j)) → post (nI (ov_nc e), nI (ov_ac e), nI (z + 1), lo, ov_C (ov_cv e), ov_A (ov_st e), ov_A (ov_sc e), ov_A (ov_hd e), ov_A (ov_vs e), ov_A (ov_lt e), ov_A (ov_kd e), ov_A (ov_ct e), ov_A (ov_lf e), ov_A (ov_rt e), tk, pt, op, ch, ty, hs', bc, bt)) : wX_noteSolution_58 post (nI c) (nI (ov_nc e)) (nI (ov_ac e)) so lo (ov_C (ov_cv e)) (ov_A (ov_st e)) (ov_A (ov_sc e)) (ov_A (ov_hd e)) (ov_A (ov_vs e)) (ov_A (ov_lt e)) (ov_A (ov_kd e)) (ov_A (ov_ct e)) (ov_A (ov_lf e)) (ov_A (ov_rt e)) tk pt op ch ty hs bc bt := by
  have hv : vp_in (nI c) 127 := vp_in_nI hc (by omega)
  refine nm_r (e' := nI (z + 1)) (by rw [hz, nI_1]) ⟨hv, hv, nm_r (e' := upd hs c (nI (f c + 1))) (by rw [nI_clamp (by omega), hh c hc, nI_1]) (h _ (fun j hj => ?_))⟩
  by_cases hjc : j = c
  · subst hjc; rw [pk_us, ov_us]
  · rw [pk_un hjc, ov_un hjc]; exact hh j hj
theorem ox_note_22 {post : SX → Prop} {c z : Nat} (hc : c < 127) (hz : so = nI z) {f : Nat → Nat} (hh : ∀ j, j < 127 → hs j = nI (f j)) (h : ∀ hs' bc' bt', (∀ j, j < 127 → hs' j = nI (ov_u f c (f c + 1) j)) → (∀ j, j < 12 → bc' j = ch j) → (∀ j, j < 12 → bt' j = ty j) → post (nI (ov_nc e), nI (ov_ac e), nI (z + 1), lo, ov_C (ov_cv e), ov_A (ov_st e), ov_A (ov_sc e), ov_A (ov_hd e), ov_A (ov_vs e), ov_A (ov_lt e), ov_A (ov_kd e), ov_A (ov_ct e), ov_A (ov_lf e), ov_A (ov_rt e), tk, pt, op, ch, ty, hs', bc', bt')) : ∃ n, wX_noteSolution_22 post (nI c) (nI (ov_nc e)) (nI (ov_ac e)) so lo n 0 (ov_C (ov_cv e)) (ov_A (ov_st e)) (ov_A (ov_sc e)) (ov_A (ov_hd e)) (ov_A (ov_vs e)) (ov_A (ov_lt e)) (ov_A (ov_kd e)) (ov_A (ov_ct e)) (ov_A (ov_lf e)) (ov_A (ov_rt e)) tk pt op ch ty hs bc bt := by
  refine loop_0 (fun n i s => wX_noteSolution_22 post (nI c) (nI (ov_nc e)) (nI (ov_ac e)) so lo n (nI i) (ov_C (ov_cv e)) (ov_A (ov_st e)) (ov_A (ov_sc e)) (ov_A (ov_hd e)) (ov_A (ov_vs e)) (ov_A (ov_lt e)) (ov_A (ov_kd e)) (ov_A (ov_ct e)) (ov_A (ov_lf e)) (ov_A (ov_rt e)) tk pt op ch ty hs s.1 s.2) (fun i s => (∀ j, j < i → s.1 j = ch j) ∧ (∀ j, j < i → s.2 j = ty j)) 12 (bc, bt) ⟨fun j hj => absurd hj (by omega), fun j hj => absurd hj (by omega)⟩ (fun n s hI => ?_) (fun n i s hi hI hk => ?_)
  · exact br_t (nI_le (a := 12) (Nat.le_refl _) (by omega)) (ox_note_58 hc hz hh (fun hs' hhs => h hs' s.1 s.2 hhs hI.1 hI.2))
  · have hv : vp_in (nI i) 12 := vp_in_nI hi (by omega)
    have hv' : vp_in (nI i) 14 := vp_in_nI (by omega) (by omega)
    exact br_f (nI_ge (b := 12) hi (by omega)) ⟨hv', hv, nm_r (e' := upd s.1 i (ch i)) (by rw [nI_clamp (by omega)]) ⟨hv, hv, nm_r (e' := upd s.2 i (ty i)) (by rw [nI_clamp (by omega)]) (nm_r (nI_1 _) (hk (_, _) ⟨ov_up (f := ch) hI.1 rfl, ov_up (f := ty) hI.2 rfl⟩))⟩⟩
theorem ox_note (hw : ov_W e) {pb : Nat → Bool} {node wanted : Nat} (hpb : ov_P1 e pb node) {t : ov_T} {n : Nat} (hn : n < 2 ^ 31) (hT : ov_TI e pb node wanted n t) (hX : ov_XC e pb t so lo hs bc bt) {d : Nat → Nat} {c : Nat} (hc : ov_co e pb node wanted d = some c) (hch : ∀ j, j < 12 → ch j = nI (d j)) (hty : ∀ j, pb j = true → ty j = nI (ov_ty e d j)) {post : SX → Prop} (h : ∀ so' lo' hs' bc' bt', ov_XC e pb (ov_en e pb node wanted d t) so' lo' hs' bc' bt' → post (nI (ov_nc e), nI (ov_ac e), so', lo', ov_C (ov_cv e), ov_A (ov_st e), ov_A (ov_sc e), ov_A (ov_hd e), ov_A (ov_vs e), ov_A (ov_lt e), ov_A (ov_kd e), ov_A (ov_ct e), ov_A (ov_lf e), ov_A (ov_rt e), tk, pt, op, ch, ty, hs', bc', bt')) : wpX_noteSolution post (nI (ov_nc e), nI (ov_ac e), so, lo, ov_C (ov_cv e), ov_A (ov_st e), ov_A (ov_sc e), ov_A (ov_hd e), ov_A (ov_vs e), ov_A (ov_lt e), ov_A (ov_kd e), ov_A (ov_ct e), ov_A (ov_lf e), ov_A (ov_rt e), tk, pt, op, ch, ty, hs, bc, bt) (nI c) := by
  have h12 := hw.1
  have hn2 := hpb.1
  have hc127 := ov_co_le hw hpb hc
  obtain ⟨sz, lw, bd, hh⟩ := t
  obtain ⟨hso, hlo, hhs⟩ := hX
  obtain ⟨hT1, hT2, hT3, hT4⟩ := hT
  rw [ov_en_s hc] at h
  dsimp only at hso hlo hhs hT1 hT2 hT3 hT4 h
  have key : sz = 0 ∨ c < lw → ∃ n22, wX_noteSolution_22 post (nI c) (nI (ov_nc e)) (nI (ov_ac e)) so (nI c) n22 0 (ov_C (ov_cv e)) (ov_A (ov_st e)) (ov_A (ov_sc e)) (ov_A (ov_hd e)) (ov_A (ov_vs e)) (ov_A (ov_lt e)) (ov_A (ov_kd e)) (ov_A (ov_ct e)) (ov_A (ov_lf e)) (ov_A (ov_rt e)) tk pt op ch ty hs bc bt := fun hl => by
    rw [if_pos hl, if_pos hl] at h
    refine ox_note_22 hc127 hso hhs (fun hs' bc' bt' a1 a2 a3 => h _ _ _ _ _ ⟨rfl, fun _ => ⟨rfl, fun j hj => ?_, fun j hj => ?_⟩, a1⟩)
    · rw [a2 j hj]; exact hch j hj
    · rw [a3 j (by have := hpb.2.1 j hj; omega)]; exact hty j hj
  refine pk_eq sz 0 (fun h0 => key (Or.inl h0)) (fun h0 => ?_) hso rfl (by omega) (by omega)
  have h4 := hT4 h0
  have hl := hlo h0
  refine pk_le lw c (fun hle => ?_) (fun hlt => key (Or.inr hlt)) hl.1 rfl (by omega) (by omega)
  have hneg : ¬ (sz = 0 ∨ c < lw) := fun z => by omega
  rw [if_neg hneg, if_neg hneg] at h
  exact ox_note_58 hc127 hso hhs (fun hs' a1 => h _ _ _ _ _ ⟨rfl, fun _ => hl, a1⟩)
end
end
section
/-! X: the survey -/
section
variable {e : ov_E} {tk pt op ch ty hs bc bt : Nat → Int32} {so lo : Int32}
theorem ox_survey_loop (hw : ov_W e) {pb : Nat → Bool} {node wanted : Nat} (hpb : ov_P1 e pb node) (hwa : wanted ≤ 3) (hpt : ∀ j, j < 12 → pt j = ov_bI (pb j)) (hop : ∀ j, j < 14 → op j = nI (ov_b e pb (ov_hc e) j)) (hch : ∀ j, j < 14 → ch j = 0) (hhs : ∀ j, j < 127 → hs j = 0) {post : SX → Prop} (h : ∀ so' lo' ch' ty' hs' bc' bt', ov_XC e pb (ov_rn e pb node wanted (ov_b e pb (ov_hc e)) (ov_P (ov_b e pb (ov_hc e)) 14)) so' lo' hs' bc' bt' → post (nI (ov_nc e), nI (ov_ac e), so', lo', ov_C (ov_cv e), ov_A (ov_st e), ov_A (ov_sc e), ov_A (ov_hd e), ov_A (ov_vs e), ov_A (ov_lt e), ov_A (ov_kd e), ov_A (ov_ct e), ov_A (ov_lf e), ov_A (ov_rt e), tk, pt, op, ch', ty', hs', bc', bt')) : ∃ n, wX_survey_21 post (nI node) (nI wanted) (nI (ov_P (ov_b e pb (ov_hc e)) 14)) n 0 (nI (ov_nc e)) (nI (ov_ac e)) 0 (-1) (ov_C (ov_cv e)) (ov_A (ov_st e)) (ov_A (ov_sc e)) (ov_A (ov_hd e)) (ov_A (ov_vs e)) (ov_A (ov_lt e)) (ov_A (ov_kd e)) (ov_A (ov_ct e)) (ov_A (ov_lf e)) (ov_A (ov_rt e)) tk pt op ch ty hs bc bt := by
  have hP := ov_P14 (e := e) (pb := pb) (ov_hc_le hw) (Nat.le_refl 14)
  refine loop_0 (fun n w (s : Int32 × Int32 × (Nat → Int32) × (Nat → Int32) × (Nat → Int32) × (Nat → Int32) × (Nat → Int32)) => wX_survey_21 post (nI node) (nI wanted) (nI (ov_P (ov_b e pb (ov_hc e)) 14)) n (nI w) (nI (ov_nc e)) (nI (ov_ac e)) s.1 s.2.1 (ov_C (ov_cv e)) (ov_A (ov_st e)) (ov_A (ov_sc e)) (ov_A (ov_hd e)) (ov_A (ov_vs e)) (ov_A (ov_lt e)) (ov_A (ov_kd e)) (ov_A (ov_ct e)) (ov_A (ov_lf e)) (ov_A (ov_rt e)) tk pt op s.2.2.1 s.2.2.2.1 s.2.2.2.2.1 s.2.2.2.2.2.1 s.2.2.2.2.2.2)
    (fun w s => (∀ j, j < 14 → s.2.2.1 j = nI (ov_dg (ov_b e pb (ov_hc e)) w j)) ∧ ov_XC e pb (ov_rn e pb node wanted (ov_b e pb (ov_hc e)) w) s.1 s.2.1 s.2.2.2.2.1 s.2.2.2.2.2.1 s.2.2.2.2.2.2)
    (ov_P (ov_b e pb (ov_hc e)) 14) (0, -1, ch, ty, hs, bc, bt) ⟨fun j hj => ?_, rfl, fun z => absurd rfl z, fun j hj => (hhs j hj)⟩ (fun n s hI => ?_) (fun n w s hw' hI hk => ?_)
  · have : ov_dg (ov_b e pb (ov_hc e)) 0 j = 0 := by unfold ov_dg; rw [Nat.zero_div, Nat.zero_mod]
    rw [this]; exact hch j hj
  · exact br_t (nI_le (Nat.le_refl _) (by omega)) (h _ _ _ _ _ _ _ hI.2)
  · obtain ⟨so1, lo1, ch1, ty1, hs1, bc1, bt1⟩ := s
    obtain ⟨hc1, hx1⟩ := hI
    dsimp only at hc1 hx1
    have hlt : ∀ j, j < 14 → ov_rd (ov_b e pb (ov_hc e)) 14 w ov_z j < ov_b e pb (ov_hc e) j := fun j hj => ov_rd_lt hw' hj
    have hD := ov_D_of hw hpb (ov_hc_le hw) hlt
    have hc2 : ∀ j, j < 14 → ch1 j = nI (ov_rd (ov_b e pb (ov_hc e)) 14 w ov_z j) := fun j hj => by rw [ov_rd_dg hj]; exact hc1 j hj
    refine br_f (nI_ge hw' (by omega)) (ox_costOfChoices hw hpb hwa hpt hD hc2 (fun n hn h3 => ?_) (fun ty' hty' => ?_))
    · have h1 := hpb.2.1 n hn
      have h2 := hpb.1
      have h12 := hw.1
      have := hlt n (by omega)
      rw [ov_b_3 (by omega) hn h3] at this
      exact this
    · have next : ∀ so2 lo2 hs2 bc2 bt2, ov_XC e pb (ov_rn e pb node wanted (ov_b e pb (ov_hc e)) (w + 1)) so2 lo2 hs2 bc2 bt2 → wX_survey_47 post (wX_survey_21 post (nI node) (nI wanted) (nI (ov_P (ov_b e pb (ov_hc e)) 14)) n) (nI node) (nI wanted) (nI (ov_P (ov_b e pb (ov_hc e)) 14)) (nI w) (nI (ov_nc e)) (nI (ov_ac e)) so2 lo2 (ov_C (ov_cv e)) (ov_A (ov_st e)) (ov_A (ov_sc e)) (ov_A (ov_hd e)) (ov_A (ov_vs e)) (ov_A (ov_lt e)) (ov_A (ov_kd e)) (ov_A (ov_ct e)) (ov_A (ov_lf e)) (ov_A (ov_rt e)) tk pt op ch1 ty' hs2 bc2 bt2 := fun so2 lo2 hs2 bc2 bt2 hx2 =>
        ox_nextChoices (ov_b_le (ov_hc_le hw)) hop hw' hc1 (fun c hc => nm_r (nI_1 _) (hk (so2, lo2, c, ty', hs2, bc2, bt2) ⟨hc, hx2⟩))
      rw [ov_rn_s] at next
      cases hco : ov_co e pb node wanted (ov_rd (ov_b e pb (ov_hc e)) 14 w ov_z) with
      | none =>
        rw [ov_en_n hco] at next
        exact br_t rfl (next _ _ _ _ _ hx1)
      | some c =>
        have hc127 := ov_co_le hw hpb hco
        refine br_f (ov_m1n (by omega)) ?_
        exact ox_note hw hpb (n := w) (by omega) (ov_rn_TI hw hpb _ w) hx1 hco (fun j hj => hc2 j (by omega)) (hty' c hco) next
theorem ox_survey (hw : ov_W e) {node wanted : Nat} (hn : node < ov_nc e) (hwa : wanted ≤ 3) {post : SX → Prop} (h : ∀ so' lo' pt' op' ch' ty' hs' bc' bt', (∀ j, j < 12 → pt' j = ov_bI (ov_pb e node j)) → ov_XC e (ov_pb e node) (ov_rn e (ov_pb e node) node wanted (ov_b e (ov_pb e node) (ov_hc e)) (ov_P (ov_b e (ov_pb e node) (ov_hc e)) 14)) so' lo' hs' bc' bt' → post (nI (ov_nc e), nI (ov_ac e), so', lo', ov_C (ov_cv e), ov_A (ov_st e), ov_A (ov_sc e), ov_A (ov_hd e), ov_A (ov_vs e), ov_A (ov_lt e), ov_A (ov_kd e), ov_A (ov_ct e), ov_A (ov_lf e), ov_A (ov_rt e), tk, pt', op', ch', ty', hs', bc', bt')) : wpX_survey post (nI (ov_nc e), nI (ov_ac e), so, lo, ov_C (ov_cv e), ov_A (ov_st e), ov_A (ov_sc e), ov_A (ov_hd e), ov_A (ov_vs e), ov_A (ov_lt e), ov_A (ov_kd e), ov_A (ov_ct e), ov_A (ov_lf e), ov_A (ov_rt e), tk, pt, op, ch, ty, hs, bc, bt) (nI node) (nI wanted) := by
  have hpb : ov_P1 e (ov_pb e node) node := ⟨hn, ov_pb_pi hw hn⟩
  unfold wpX_survey
  dsimp only
  refine ox_mark hw hn (fun s hs1 => ?_)
  dsimp only
  refine ox_setOptions hw hpb hs1 (fun o c ho hc => ?_)
  dsimp only
  refine ox_forgetSolutions (fun hs2 hh => ?_)
  dsimp only
  refine ox_waysToChoose ho ?_
  exact ox_survey_loop hw hpb hwa hs1 ho hc hh (fun so' lo' ch' ty' hs' bc' bt' hx => h _ _ _ _ _ _ _ _ _ hs1 hx)
end
end
section
/-! Y: the parts, the names, the total, the reading of a code -/
theorem ov_P1s {b : Nat → Nat} {i : Nat} (h : b i = 1) : ov_P b (i + 1) = ov_P b i := by
  show ov_P b i * b i = _
  rw [h, Nat.mul_one]
theorem ov_P_nc {e : ov_E} (hw : ov_W e) {pb : Nat → Bool} {node : Nat} (hp : ov_P1 e pb node) {a : Nat → Nat} : ov_P (ov_b e pb a) (ov_nc e) = ov_P (ov_b e pb a) 12 := by
  have h : ∀ r, ov_nc e + r ≤ 12 → ov_P (ov_b e pb a) (ov_nc e + r) = ov_P (ov_b e pb a) (ov_nc e) := by
    intro r
    induction r with
    | zero => exact fun _ => rfl
    | succ r ih =>
      intro hr
      rw [← ih (by omega)]
      exact ov_P1s (i := ov_nc e + r) (ov_b_1 (by omega) (fun hb => by rw [ov_pb_f hp (Nat.le_add_right _ _)] at hb; exact absurd hb Bool.false_ne_true))
  have h12 := hw.1
  have := h (12 - ov_nc e) (by omega)
  rw [show ov_nc e + (12 - ov_nc e) = 12 by omega] at this
  exact this.symm
section
variable {e : ov_E} {tk yq yr pa pq pv yt : Nat → Int32} {to fi le be bo sa : Int32}
theorem oy_names (hw : ov_W e) {pb : Nat → Bool} {node : Nat} (hp : ov_P1 e pb node) (hpa : ∀ j, j < 12 → pa j = ov_bI (pb j)) {v : Nat} (hv : v < 2) {post : Int32 → Prop} (h : post (ov_bI (ov_nm e pb v 12))) : wpY_names post (nI (ov_nc e), to, fi, le, be, bo, sa, ov_C (ov_cv e), ov_A (ov_hd e), ov_A (ov_s9 e), ov_A (ov_s3 e), ov_A (ov_s1 e), ov_A (ov_sc e), ov_A (ov_vs e), ov_A (ov_lt e), ov_A (ov_kd e), ov_A (ov_ct e), yq, yr, tk, pa, pq, pv, yt) (nI v) := by
  have h12 := hw.1
  rw [← ov_nm_nc hw hp] at h
  refine loop_0 (fun n i (_ : Unit) => wY_names_2 post (nI v) (nI (ov_nc e)) to fi le be bo sa (ov_C (ov_cv e)) (ov_A (ov_hd e)) (ov_A (ov_s9 e)) (ov_A (ov_s3 e)) (ov_A (ov_s1 e)) (ov_A (ov_sc e)) (ov_A (ov_vs e)) (ov_A (ov_lt e)) (ov_A (ov_kd e)) (ov_A (ov_ct e)) yq yr tk pa pq pv yt n (nI i)) (fun i _ => ov_nm e pb v i = false) (ov_nc e) () rfl (fun n s hI => ?_) (fun n i s hi hI hk => ?_)
  · rw [hI] at h
    exact br_t (nI_le (Nat.le_refl _) (by omega)) h
  · have hN := hw.2.2.2.2.2.2.2.2.1 i hi
    have hk3 := hN.1
    have hiv : vp_in (nI i) 12 := vp_in_nI (by omega) (by omega)
    have hct := hw.2.2.2.2.2.2.2.1 i
    refine br_f (nI_ge hi (by omega)) (br_f (nI_ge (b := 12) (by omega) (by omega)) ⟨hiv, ov_pc (b := pb i) (by rw [nI_clamp (by omega)]; exact hpa i (by omega)) (fun hb => ?_) (fun hb => ⟨hiv, pk_eq (ov_kd e i) 1 (fun h1 => ⟨hiv, pk_eq (ov_ct e i) v (fun hc => ?_) (fun hc => ?_) (ov_AV (by omega)) rfl (by omega) (by omega)⟩) (fun h1 => ?_) (ov_AV (by omega)) rfl (by omega) (by omega)⟩)⟩)
    · exact nm_r (nI_1 _) (hk () (by rw [ov_nm_skip (fun z => by rw [hb] at z; exact Bool.false_ne_true z.1)]; exact hI))
    · have := ov_nm_of hb h1 (ov_nc e) hi
      rw [hc] at this
      rw [this] at h
      exact h
    · exact nm_r (nI_1 _) (hk () (by rw [ov_nm_skip (fun z => hc z.2.2)]; exact hI))
    · exact nm_r (nI_1 _) (hk () (by rw [ov_nm_skip (fun z => h1 z.2.1)]; exact hI))
theorem oy_mark_169 (hw : ov_W e) {pb : Nat → Bool} {node : Nat} (hp : ov_P1 e pb node) (hpa : ∀ j, j < 12 → pa j = ov_bI (pb j)) {post : SY → Prop} (h : post (nI (ov_nc e), nI (ov_P (ov_b e pb ov_4) 14), fi, le, be, bo, sa, ov_C (ov_cv e), ov_A (ov_hd e), ov_A (ov_s9 e), ov_A (ov_s3 e), ov_A (ov_s1 e), ov_A (ov_sc e), ov_A (ov_vs e), ov_A (ov_lt e), ov_A (ov_kd e), ov_A (ov_ct e), yq, yr, tk, pa, pq, pv, yt)) : wY_mark_169 post (nI (ov_nc e)) (nI (ov_P (ov_b e pb ov_4) 12)) fi le be bo sa (ov_C (ov_cv e)) (ov_A (ov_hd e)) (ov_A (ov_s9 e)) (ov_A (ov_s3 e)) (ov_A (ov_s1 e)) (ov_A (ov_sc e)) (ov_A (ov_vs e)) (ov_A (ov_lt e)) (ov_A (ov_kd e)) (ov_A (ov_ct e)) yq yr tk pa pq pv yt := by
  have k1 : ∀ t : Int32, t = nI (ov_P (ov_b e pb ov_4) 13) → wY_mark_187 post (nI (ov_nc e)) t fi le be bo sa (ov_C (ov_cv e)) (ov_A (ov_hd e)) (ov_A (ov_s9 e)) (ov_A (ov_s3 e)) (ov_A (ov_s1 e)) (ov_A (ov_sc e)) (ov_A (ov_vs e)) (ov_A (ov_lt e)) (ov_A (ov_kd e)) (ov_A (ov_ct e)) yq yr tk pa pq pv yt := by
    intro t ht
    subst ht
    refine oy_names hw hp hpa (v := 1) (by omega) (ov_pc rfl (fun hb => ?_) (fun hb => ?_))
    · have hb1 : ov_b e pb ov_4 13 = 1 := (ov_b_v (v := 1)).trans (if_neg (by rw [hb]; exact Bool.false_ne_true))
      rw [ov_P1s hb1] at h; exact h
    · have hb1 : ov_b e pb ov_4 13 = 3 := (ov_b_v (v := 1)).trans (if_pos hb)
      refine nm_r (e' := nI (ov_P (ov_b e pb ov_4) 14)) ?_ h
      show nI _ * nI 3 = nI (ov_P (ov_b e pb ov_4) 13 * ov_b e pb ov_4 13)
      rw [pk_mul, hb1]
  refine oy_names hw hp hpa (v := 0) (by omega) (ov_pc rfl (fun hb => ?_) (fun hb => ?_))
  · have hb1 : ov_b e pb ov_4 12 = 1 := (ov_b_v (v := 0)).trans (if_neg (by rw [hb]; exact Bool.false_ne_true))
    exact k1 _ (by rw [ov_P1s hb1])
  · have hb1 : ov_b e pb ov_4 12 = 3 := (ov_b_v (v := 0)).trans (if_pos hb)
    refine nm_r (e' := nI (ov_P (ov_b e pb ov_4) 13)) ?_ (k1 _ rfl)
    show nI _ * nI 3 = nI (ov_P (ov_b e pb ov_4) 12 * ov_b e pb ov_4 12)
    rw [pk_mul, hb1]
theorem oy_mark_92 (hw : ov_W e) {pb : Nat → Bool} {node : Nat} (hp : ov_P1 e pb node) (hpa : ∀ j, j < 12 → pa j = ov_bI (pb j)) {post : SY → Prop} (h : post (nI (ov_nc e), nI (ov_P (ov_b e pb ov_4) 14), fi, le, be, bo, sa, ov_C (ov_cv e), ov_A (ov_hd e), ov_A (ov_s9 e), ov_A (ov_s3 e), ov_A (ov_s1 e), ov_A (ov_sc e), ov_A (ov_vs e), ov_A (ov_lt e), ov_A (ov_kd e), ov_A (ov_ct e), yq, yr, tk, pa, pq, pv, yt)) : ∃ n, wY_mark_92 post (nI (ov_nc e)) fi le be bo sa (ov_C (ov_cv e)) (ov_A (ov_hd e)) (ov_A (ov_s9 e)) (ov_A (ov_s3 e)) (ov_A (ov_s1 e)) (ov_A (ov_sc e)) (ov_A (ov_vs e)) (ov_A (ov_lt e)) (ov_A (ov_kd e)) (ov_A (ov_ct e)) yq yr tk pa pq pv yt n 0 1 := by
  have h12 := hw.1
  refine loop_0 (fun n i (_ : Unit) => wY_mark_92 post (nI (ov_nc e)) fi le be bo sa (ov_C (ov_cv e)) (ov_A (ov_hd e)) (ov_A (ov_s9 e)) (ov_A (ov_s3 e)) (ov_A (ov_s1 e)) (ov_A (ov_sc e)) (ov_A (ov_vs e)) (ov_A (ov_lt e)) (ov_A (ov_kd e)) (ov_A (ov_ct e)) yq yr tk pa pq pv yt n (nI i) (nI (ov_P (ov_b e pb ov_4) i))) (fun _ _ => True) (ov_nc e) () trivial (fun n s _ => ?_) (fun n i s hi _ hk => ?_)
  · refine br_t (nI_le (Nat.le_refl _) (by omega)) ?_
    rw [ov_P_nc hw hp]
    exact oy_mark_169 hw hp hpa h
  · have hN := hw.2.2.2.2.2.2.2.2.1 i hi
    have hk3 := hN.1
    have hiv : vp_in (nI i) 12 := vp_in_nI (by omega) (by omega)
    have hpi : pa (nI i).toNatClampNeg = ov_bI (pb i) := by rw [nI_clamp (by omega)]; exact hpa i (by omega)
    have hk' := hk () trivial
    have hPs : ov_P (ov_b e pb ov_4) (i + 1) = ov_P (ov_b e pb ov_4) i * ov_b e pb ov_4 i := rfl
    refine br_f (nI_ge hi (by omega)) (br_f (nI_ge (b := 12) (by omega) (by omega)) ⟨hiv, ov_pc (b := pb i) hpi (fun hb => ?_) (fun hb => ⟨hiv, pk_eq (ov_kd e i) 0 (fun h0 => ?_) (fun h0 => ?_) (ov_AV (by omega)) rfl (by omega) (by omega)⟩)⟩)
    · refine ⟨hiv, ov_pc (b := pb i) hpi (fun _ => nm_r (nI_1 _) ?_) (fun z => by rw [hb] at z; exact absurd z Bool.false_ne_true)⟩
      rw [ov_P1s (ov_b_1 (by omega) (fun z => by rw [hb] at z; exact absurd z Bool.false_ne_true))] at hk'
      exact hk'
    · refine nm_r (e' := nI (ov_P (ov_b e pb ov_4) (i + 1))) ?_ ⟨hiv, ov_pc (b := pb i) hpi (fun z => by rw [hb] at z; exact absurd z.symm Bool.false_ne_true) (fun _ => ⟨hiv, pk_eq (ov_kd e i) 3 (fun z => absurd z (by omega)) (fun _ => nm_r (nI_1 _) hk') (ov_AV (by omega)) rfl (by omega) (by omega)⟩)⟩
      rw [hPs, ov_b_0 (by omega) hb h0]
      exact pk_mul _ 3
    · refine ⟨hiv, ov_pc (b := pb i) hpi (fun z => by rw [hb] at z; exact absurd z.symm Bool.false_ne_true) (fun _ => ⟨hiv, pk_eq (ov_kd e i) 3 (fun h3 => ?_) (fun h3 => ?_) (ov_AV (by omega)) rfl (by omega) (by omega)⟩)⟩
      · refine nm_r (e' := nI (ov_P (ov_b e pb ov_4) (i + 1))) ?_ (nm_r (nI_1 _) hk')
        rw [hPs, ov_b_3 (by omega) hb h3]
        exact pk_mul _ 4
      · rw [ov_P1s (ov_b_1 (by omega) (fun _ => by omega))] at hk'
        exact nm_r (nI_1 _) hk'
theorem oy_mark_32 (hw : ov_W e) {node : Nat} (hn : node < ov_nc e) {post : SY → Prop} (hq : ∀ n, n < ov_nc e → ov_kd e n = 3 → yq n = nI (ov_lf e n) ∧ yr n = nI (ov_rt e n)) (h : ∀ s', (∀ j, j < 12 → s' j = ov_bI (ov_pb e node j)) → post (nI (ov_nc e), nI (ov_P (ov_b e (ov_pb e node) ov_4) 14), fi, le, be, bo, sa, ov_C (ov_cv e), ov_A (ov_hd e), ov_A (ov_s9 e), ov_A (ov_s3 e), ov_A (ov_s1 e), ov_A (ov_sc e), ov_A (ov_vs e), ov_A (ov_lt e), ov_A (ov_kd e), ov_A (ov_ct e), yq, yr, tk, s', pq, pv, yt)) : ∀ (m : Nat) (s : Nat → Int32) (f : Nat → Bool), m ≤ ov_nc e → (∀ j, j < 12 → s j = ov_bI (f j)) → ov_mk e m f = ov_pb e node → wY_mark_32 post (nI (ov_nc e)) to fi le be bo sa (m + 1) (nI m + (-1)) (ov_C (ov_cv e)) (ov_A (ov_hd e)) (ov_A (ov_s9 e)) (ov_A (ov_s3 e)) (ov_A (ov_s1 e)) (ov_A (ov_sc e)) (ov_A (ov_vs e)) (ov_A (ov_lt e)) (ov_A (ov_kd e)) (ov_A (ov_ct e)) yq yr tk s pq pv yt := by
  have h12 := hw.1
  intro m
  induction m with
  | zero =>
    intro s f _ hs he
    have he' : f = ov_pb e node := he
    subst he'
    exact br_t (by decide) (oy_mark_92 hw ⟨hn, ov_pb_pi hw hn⟩ hs (h s hs))
  | succ m ih =>
    intro s f hm hs he
    rw [pk_m1]
    have hi : vp_in (nI m) 12 := vp_in_nI (by omega) (by omega)
    have hN := hw.2.2.2.2.2.2.2.2.1 m (by omega)
    refine br_f (nI_pos (by omega)) ⟨hi, ov_pc (b := f m) (by rw [nI_clamp (by omega)]; exact hs m (by omega)) (fun hf => ?_) (fun hf => ⟨hi, pk_eq (ov_kd e m) 3 (fun h3 => ?_) (fun h3 => ?_) (ov_AV (by omega)) rfl (by have := hN.1; omega) (by omega)⟩)⟩
    · have hmk : ov_mk e (m + 1) f = ov_mk e m f := by
        show ov_mk e m (if f m = true ∧ ov_kd e m = 3 then _ else f) = _
        rw [if_neg (fun z => by rw [hf] at z; exact Bool.false_ne_true z.1)]
      exact nm_e (ih s f (by omega) hs (hmk ▸ he))
    · have hmk : ov_mk e (m + 1) f = ov_mk e m (ov_u (ov_u f (ov_lf e m) true) (ov_rt e m) true) := by
        show ov_mk e m (if f m = true ∧ ov_kd e m = 3 then _ else f) = _
        rw [if_pos ⟨hf, h3⟩]
      obtain ⟨_, hl, hr⟩ := hN.2.2.2 h3
      have ql : yq (nI m).toNatClampNeg = nI (ov_lf e m) := by rw [nI_clamp (by omega)]; exact (hq m (by omega) h3).1
      have qr : yr (nI m).toNatClampNeg = nI (ov_rt e m) := by rw [nI_clamp (by omega)]; exact (hq m (by omega) h3).2
      have il : vp_in (yq (nI m).toNatClampNeg) 12 := by rw [ql]; exact vp_in_nI (by omega) (by omega)
      have ir : vp_in (yr (nI m).toNatClampNeg) 12 := by rw [qr]; exact vp_in_nI (by omega) (by omega)
      refine ⟨hi, il, nm_r (e' := upd s (ov_lf e m) 1) (by rw [ql, nI_clamp (by omega), ov_nb1]) ⟨hi, ir, nm_r (e' := upd (upd s (ov_lf e m) 1) (ov_rt e m) 1) (by rw [qr, nI_clamp (by omega), ov_nb1]) (nm_e (ih _ _ (by omega) ?_ (hmk ▸ he)))⟩⟩
      exact ov_up2 (ov_up2 (g := ov_u f (ov_lf e m) true) hs (by rw [ov_us]; rfl) (fun j hj => ov_un hj)) (by rw [ov_us]; rfl) (fun j hj => ov_un hj)
    · have hmk : ov_mk e (m + 1) f = ov_mk e m f := by
        show ov_mk e m (if f m = true ∧ ov_kd e m = 3 then _ else f) = _
        rw [if_neg (fun z => h3 z.2)]
      exact nm_e (ih s f (by omega) hs (hmk ▸ he))
theorem oy_mark (hw : ov_W e) {node : Nat} (hn : node < ov_nc e) (hq : ∀ n, n < ov_nc e → ov_kd e n = 3 → yq n = nI (ov_lf e n) ∧ yr n = nI (ov_rt e n)) {post : SY → Prop} (h : ∀ s', (∀ j, j < 12 → s' j = ov_bI (ov_pb e node j)) → post (nI (ov_nc e), nI (ov_P (ov_b e (ov_pb e node) ov_4) 14), fi, le, be, bo, sa, ov_C (ov_cv e), ov_A (ov_hd e), ov_A (ov_s9 e), ov_A (ov_s3 e), ov_A (ov_s1 e), ov_A (ov_sc e), ov_A (ov_vs e), ov_A (ov_lt e), ov_A (ov_kd e), ov_A (ov_ct e), yq, yr, tk, s', pq, pv, yt)) : wpY_mark post (nI (ov_nc e), to, fi, le, be, bo, sa, ov_C (ov_cv e), ov_A (ov_hd e), ov_A (ov_s9 e), ov_A (ov_s3 e), ov_A (ov_s1 e), ov_A (ov_sc e), ov_A (ov_vs e), ov_A (ov_lt e), ov_A (ov_kd e), ov_A (ov_ct e), yq, yr, tk, pa, pq, pv, yt) (nI node) := by
  have h12 := hw.1
  refine loop_0 (fun n i s => wY_mark_2 post (nI node) (nI (ov_nc e)) to fi le be bo sa n (nI i) (ov_C (ov_cv e)) (ov_A (ov_hd e)) (ov_A (ov_s9 e)) (ov_A (ov_s3 e)) (ov_A (ov_s1 e)) (ov_A (ov_sc e)) (ov_A (ov_vs e)) (ov_A (ov_lt e)) (ov_A (ov_kd e)) (ov_A (ov_ct e)) yq yr tk s pq pv yt) (fun i s => ∀ j, j < i → s j = ov_bI (decide (j = node))) 12 pa (fun j hj => absurd hj (by omega)) (fun n s hI => ?_) (fun n i s hi hI hk => ?_)
  · refine br_t (nI_le (a := 12) (Nat.le_refl _) (by omega)) ⟨node + 1 + 1, ?_⟩
    have := oy_mark_32 (to := to) hw hn (post := post) hq h (node + 1) s _ (by omega) hI rfl
    rw [pk_m1] at this
    exact this
  · have hv : vp_in (nI i) 12 := vp_in_nI hi (by omega)
    refine br_f (nI_ge (b := 12) hi (by omega)) (pk_eq i node (fun h1 => ?_) (fun h1 => ?_))
    · exact ⟨hv, nm_r (e' := upd s i 1) (by rw [nI_clamp (by omega), ov_nb1]) (nm_r (nI_1 _) (hk _ (ov_up hI (by rw [decide_eq_true h1]; rfl))))⟩
    · exact ⟨hv, nm_r (e' := upd s i 0) (by rw [nI_clamp (by omega), ov_nb0]) (nm_r (nI_1 _) (hk _ (ov_up hI (by rw [decide_eq_false h1]; rfl))))⟩
end
end
section
/-! Y: the reading of a code -/
def ov_gn (e : ov_E) (pb : Nat → Bool) (d : Nat → Nat) : Nat → Bool
  | 0 => true
  | k + 1 => if pb k = true then (ov_gn e pb d k && ov_g1 e d k) else ov_gn e pb d k
def ov_gv (e : ov_E) (pb : Nat → Bool) (d : Nat → Nat) (g : Bool) : Nat → Bool
  | 0 => g
  | v + 1 => if ov_nm e pb v 12 = true then (ov_gv e pb d g v && ov_bit (ov_vs e v) (d (12 + v))) else ov_gv e pb d g v
def ov_gG (e : ov_E) (pb : Nat → Bool) (d : Nat → Nat) : Bool := ov_gv e pb d (ov_gn e pb d (ov_nc e)) 2
theorem ov_gn_t {e : ov_E} {pb : Nat → Bool} {d : Nat → Nat} : ∀ k, ov_gn e pb d k = true ↔ ∀ n, n < k → pb n = true → ov_g1 e d n = true := by
  intro k
  induction k with
  | zero => exact ⟨fun _ n hn => absurd hn (by omega), fun _ => rfl⟩
  | succ k ih =>
    show (if pb k = true then (ov_gn e pb d k && ov_g1 e d k) else ov_gn e pb d k) = true ↔ _
    by_cases hb : pb k = true
    · rw [if_pos hb, Bool.and_eq_true, ih]
      refine ⟨fun h n hn hp => ?_, fun h => ⟨fun n hn => h n (by omega), h k (by omega) hb⟩⟩
      by_cases hnk : n = k
      · subst hnk; exact h.2
      · exact h.1 n (by omega) hp
    · rw [if_neg hb, ih]
      refine ⟨fun h n hn hp => ?_, fun h n hn => h n (by omega)⟩
      by_cases hnk : n = k
      · subst hnk; exact absurd hp hb
      · exact h n (by omega) hp
theorem ov_gv_t {e : ov_E} {pb : Nat → Bool} {d : Nat → Nat} {g : Bool} : ∀ k, ov_gv e pb d g k = true ↔ g = true ∧ ∀ v, v < k → ov_nm e pb v 12 = true → ov_bit (ov_vs e v) (d (12 + v)) = true := by
  intro k
  induction k with
  | zero => exact ⟨fun h => ⟨h, fun v hv => absurd hv (by omega)⟩, fun h => h.1⟩
  | succ k ih =>
    show (if ov_nm e pb k 12 = true then (ov_gv e pb d g k && ov_bit (ov_vs e k) (d (12 + k))) else ov_gv e pb d g k) = true ↔ _
    by_cases hb : ov_nm e pb k 12 = true
    · rw [if_pos hb, Bool.and_eq_true, ih]
      refine ⟨fun h => ⟨h.1.1, fun n hn hp => ?_⟩, fun h => ⟨⟨h.1, fun n hn => h.2 n (by omega)⟩, h.2 k (by omega) hb⟩⟩
      by_cases hnk : n = k
      · subst hnk; exact h.2
      · exact h.1.2 n (by omega) hp
    · rw [if_neg hb, ih]
      refine ⟨fun h => ⟨h.1, fun n hn hp => ?_⟩, fun h => ⟨h.1, fun n hn => h.2 n (by omega)⟩⟩
      by_cases hnk : n = k
      · subst hnk; exact absurd hp hb
      · exact h.2 n (by omega) hp
theorem ov_gG_t {e : ov_E} (hw : ov_W e) {pb : Nat → Bool} {node : Nat} (hp : ov_P1 e pb node) {d : Nat → Nat} : ov_gG e pb d = true ↔ ov_G e pb d := by
  have h12 := hw.1
  unfold ov_gG
  rw [ov_gv_t, ov_gn_t]
  constructor
  · intro h n hn
    have h1 := hp.2.1 n hn
    have h2 := hp.1
    have hN := hw.2.2.2.2.2.2.2.2.1 n (by omega)
    exact ⟨h.1 n (by omega) hn, fun hk => h.2 _ (hN.2.1 hk) (ov_nm_of hn hk 12 (by omega))⟩
  · intro h
    refine ⟨fun n _ hn => (h n hn).1, fun v _ hv => ?_⟩
    obtain ⟨n, _, h2, h3, h4⟩ := ov_nm_ex 12 hv
    have := (h n h2).2 h3
    rw [h4] at this
    exact this
theorem ov_nbI (b : Bool) : narrow .boolean (.int (ov_bI b)) = .int (ov_bI b) := by cases b <;> rfl
theorem ov_bit0 {A B : Prop} {s t : Nat} (hs : s < 8) (ht : t < 3) (f : ov_bit s t = false → A) (g : ov_bit s t = true → B) : ((((nI s >>> (nI t &&& 31)) &&& 1) = 0 → A) ∧ (¬ ((nI s >>> (nI t &&& 31)) &&& 1) = 0 → B)) := by
  have h2 : s / 2 ^ t % 2 < 2 := Nat.mod_lt _ (by decide)
  unfold ov_bit at f g
  exact pk_eq (s / 2 ^ t % 2) 0 (fun h => f (decide_eq_false (by omega))) (fun h => g (decide_eq_true (by omega))) (ov_tab2 hs ht) rfl (by omega) (by omega)
theorem ov_dgd {b : Nat → Nat} {c i : Nat} : c / ov_P b (i + 1) = c / ov_P b i / b i := by
  rw [show ov_P b (i + 1) = ov_P b i * b i from rfl, Nat.div_div_eq_div_mul]
section
variable {e : ov_E} {tk yq yr pa pq pv yt : Nat → Int32} {to fi le be bo sa : Int32}
theorem oy_read_155 (hw : ov_W e) {pb : Nat → Bool} {node : Nat} (hp : ov_P1 e pb node) (hpa : ∀ j, j < 12 → pa j = ov_bI (pb j)) {c : Nat} (hc : c < ov_P (ov_b e pb ov_4) 14) {g : Bool} {post : Int32 → SY → Prop} (h : ∀ pv', (∀ v, v < 2 → ov_nm e pb v 12 = true → pv' v = nI (ov_rd (ov_b e pb ov_4) 14 c ov_z (12 + v))) → post (ov_bI (ov_gv e pb (ov_rd (ov_b e pb ov_4) 14 c ov_z) g 2)) (nI (ov_nc e), to, fi, le, be, bo, sa, ov_C (ov_cv e), ov_A (ov_hd e), ov_A (ov_s9 e), ov_A (ov_s3 e), ov_A (ov_s1 e), ov_A (ov_sc e), ov_A (ov_vs e), ov_A (ov_lt e), ov_A (ov_kd e), ov_A (ov_ct e), yq, yr, tk, pa, pq, pv', yt)) : ∃ n, wY_read_155 post (nI (ov_nc e)) to fi le be bo sa n (nI (c / ov_P (ov_b e pb ov_4) 12)) (ov_bI g) 0 (ov_C (ov_cv e)) (ov_A (ov_hd e)) (ov_A (ov_s9 e)) (ov_A (ov_s3 e)) (ov_A (ov_s1 e)) (ov_A (ov_sc e)) (ov_A (ov_vs e)) (ov_A (ov_lt e)) (ov_A (ov_kd e)) (ov_A (ov_ct e)) yq yr tk pa pq pv yt := by
  have hP := ov_P14 (e := e) (pb := pb) (a := ov_4) ov_4_le (Nat.le_refl 14)
  generalize hbe : ov_b e pb ov_4 = b at *
  generalize hde : ov_rd b 14 c ov_z = d at *
  refine loop_0 (fun n v s => wY_read_155 post (nI (ov_nc e)) to fi le be bo sa n (nI (c / ov_P b (12 + v))) (ov_bI (ov_gv e pb d g v)) (nI v) (ov_C (ov_cv e)) (ov_A (ov_hd e)) (ov_A (ov_s9 e)) (ov_A (ov_s3 e)) (ov_A (ov_s1 e)) (ov_A (ov_sc e)) (ov_A (ov_vs e)) (ov_A (ov_lt e)) (ov_A (ov_kd e)) (ov_A (ov_ct e)) yq yr tk pa pq s yt) (fun v s => ∀ v', v' < v → ov_nm e pb v' 12 = true → s v' = nI (d (12 + v'))) 2 pv (fun v hv => absurd hv (by omega)) (fun n s hI => ?_) (fun n v s hv hI hk => ?_)
  · exact br_t (nI_le (a := 2) (Nat.le_refl _) (by omega)) ⟨ov_nbI _, h s hI⟩
  · have hq : c / ov_P b (12 + v) ≤ c := Nat.div_le_self _ _
    have hiv : vp_in (nI v) 2 := vp_in_nI hv (by omega)
    have hdv : d (12 + v) = ov_dg b c (12 + v) := by rw [← hde]; exact ov_rd_dg (by omega)
    refine br_f (nI_ge (b := 2) hv (by omega)) (oy_names hw hp hpa hv (ov_pc rfl (fun hb => ?_) (fun hb => ?_)))
    · have hb1 : b (12 + v) = 1 := by rw [← hbe, ov_b_v, if_neg (by rw [hb]; exact Bool.false_ne_true)]
      have hk' := hk s (fun v' hv' hn => by
        by_cases hvv : v' = v
        · subst hvv; rw [hb] at hn; exact absurd hn Bool.false_ne_true
        · exact hI v' (by omega) hn)
      have e1 : ov_P b (12 + (v + 1)) = ov_P b (12 + v) := ov_P1s hb1
      have e2 : ov_gv e pb d g (v + 1) = ov_gv e pb d g v := if_neg (by rw [hb]; exact Bool.false_ne_true)
      rw [e1, e2] at hk'
      exact nm_r (nI_1 _) hk'
    · have hb3 : b (12 + v) = 3 := by rw [← hbe, ov_b_v, if_pos hb]
      have hd3 : d (12 + v) < 3 := by rw [hdv]; unfold ov_dg; rw [hb3]; exact Nat.mod_lt _ (by omega)
      have hdv' : c / ov_P b (12 + v) % 3 = d (12 + v) := by rw [hdv]; unfold ov_dg; rw [hb3]
      have hk' := hk (upd s v (nI (d (12 + v)))) (fun v' hv' hn => by
        by_cases hvv : v' = v
        · subst hvv; exact pk_us
        · rw [pk_un hvv]; exact hI v' (by omega) hn)
      have e1 : c / ov_P b (12 + (v + 1)) = c / ov_P b (12 + v) / 3 := by
        have := ov_dgd (b := b) (c := c) (i := 12 + v)
        rw [hb3] at this; exact this
      have e2 : ov_gv e pb d g (v + 1) = (ov_gv e pb d g v && ov_bit (ov_vs e v) (d (12 + v))) := if_pos hb
      rw [e1, e2] at hk'
      refine ⟨ov_33, hiv, nm_r (e' := upd s v (nI (d (12 + v)))) (by rw [ov_rem3 (by omega), nI_clamp (by omega), hdv']) ⟨ov_33, nm_r (ov_div3 (by omega)) ⟨hiv, hiv, ?_⟩⟩⟩
      rw [ov_AV (by omega), nI_clamp (show v < 2 ^ 31 by omega), pk_us]
      refine ov_bit0 (hw.2.2.2.2.2.1 v) hd3 (fun hbit => ?_) (fun hbit => ?_)
      · rw [hbit, Bool.and_false] at hk'
        exact nm_r (nI_1 _) hk'
      · rw [hbit, Bool.and_true] at hk'
        exact nm_r (nI_1 _) hk'
theorem oy_read (hw : ov_W e) {pb : Nat → Bool} {node : Nat} (hp : ov_P1 e pb node) (hpa : ∀ j, j < 12 → pa j = ov_bI (pb j)) {c : Nat} (hc : c < ov_P (ov_b e pb ov_4) 14) {post : Int32 → SY → Prop} (h : ∀ pq' pv', (∀ j, j < ov_nc e → pq' j = nI (ov_rd (ov_b e pb ov_4) 14 c ov_z j)) → (∀ v, v < 2 → ov_nm e pb v 12 = true → pv' v = nI (ov_rd (ov_b e pb ov_4) 14 c ov_z (12 + v))) → post (ov_bI (ov_gG e pb (ov_rd (ov_b e pb ov_4) 14 c ov_z))) (nI (ov_nc e), to, fi, le, be, bo, sa, ov_C (ov_cv e), ov_A (ov_hd e), ov_A (ov_s9 e), ov_A (ov_s3 e), ov_A (ov_s1 e), ov_A (ov_sc e), ov_A (ov_vs e), ov_A (ov_lt e), ov_A (ov_kd e), ov_A (ov_ct e), yq, yr, tk, pa, pq', pv', yt)) : wpY_read post (nI (ov_nc e), to, fi, le, be, bo, sa, ov_C (ov_cv e), ov_A (ov_hd e), ov_A (ov_s9 e), ov_A (ov_s3 e), ov_A (ov_s1 e), ov_A (ov_sc e), ov_A (ov_vs e), ov_A (ov_lt e), ov_A (ov_kd e), ov_A (ov_ct e), yq, yr, tk, pa, pq, pv, yt) (nI c) := by
  have h12 := hw.1
  have hP := ov_P14 (e := e) (pb := pb) (a := ov_4) ov_4_le (Nat.le_refl 14)
  have hrest : ∀ pq', (∀ j, j < ov_nc e → pq' j = nI (ov_rd (ov_b e pb ov_4) 14 c ov_z j)) → ∃ n, wY_read_155 post (nI (ov_nc e)) to fi le be bo sa n (nI (c / ov_P (ov_b e pb ov_4) 12)) (ov_bI (ov_gn e pb (ov_rd (ov_b e pb ov_4) 14 c ov_z) (ov_nc e))) 0 (ov_C (ov_cv e)) (ov_A (ov_hd e)) (ov_A (ov_s9 e)) (ov_A (ov_s3 e)) (ov_A (ov_s1 e)) (ov_A (ov_sc e)) (ov_A (ov_vs e)) (ov_A (ov_lt e)) (ov_A (ov_kd e)) (ov_A (ov_ct e)) yq yr tk pa pq' pv yt := fun pq' hpq => oy_read_155 hw hp hpa hc (fun pv' hpv => h pq' pv' hpq hpv)
  clear h
  have hPnc := ov_P_nc hw hp (a := ov_4)
  have hb0 := fun (i : Nat) (h1 : i < 12) (h2 : pb i = true) (h3 : ov_kd e i = 0) => ov_b_0 (a := ov_4) h1 h2 h3
  have hb3 := fun (i : Nat) (h1 : i < 12) (h2 : pb i = true) (h3 : ov_kd e i = 3) => ov_b_3 (a := ov_4) h1 h2 h3
  have hb1 := fun (i : Nat) (h1 : i < 12) (h2 : pb i = true → ov_kd e i = 1 ∨ ov_kd e i = 2) => ov_b_1 (a := ov_4) h1 h2
  generalize hbe : ov_b e pb ov_4 = b at *
  generalize hde : ov_rd b 14 c ov_z = d at *
  have H0 : (∃ n, wY_read_7 post (nI (ov_nc e)) to fi le be bo sa n (nI (c / ov_P b 0)) (ov_bI (ov_gn e pb d 0)) (nI 0) (ov_C (ov_cv e)) (ov_A (ov_hd e)) (ov_A (ov_s9 e)) (ov_A (ov_s3 e)) (ov_A (ov_s1 e)) (ov_A (ov_sc e)) (ov_A (ov_vs e)) (ov_A (ov_lt e)) (ov_A (ov_kd e)) (ov_A (ov_ct e)) yq yr tk pa pq pv yt) → wpY_read post (nI (ov_nc e), to, fi, le, be, bo, sa, ov_C (ov_cv e), ov_A (ov_hd e), ov_A (ov_s9 e), ov_A (ov_s3 e), ov_A (ov_s1 e), ov_A (ov_sc e), ov_A (ov_vs e), ov_A (ov_lt e), ov_A (ov_kd e), ov_A (ov_ct e), yq, yr, tk, pa, pq, pv, yt) (nI c) := fun H => by
    have h0 : c / ov_P b 0 = c := Nat.div_one c
    rw [h0] at H
    exact H
  refine H0 (loop_0 (fun n i s => wY_read_7 post (nI (ov_nc e)) to fi le be bo sa n (nI (c / ov_P b i)) (ov_bI (ov_gn e pb d i)) (nI i) (ov_C (ov_cv e)) (ov_A (ov_hd e)) (ov_A (ov_s9 e)) (ov_A (ov_s3 e)) (ov_A (ov_s1 e)) (ov_A (ov_sc e)) (ov_A (ov_vs e)) (ov_A (ov_lt e)) (ov_A (ov_kd e)) (ov_A (ov_ct e)) yq yr tk pa s pv yt) (fun i s => ∀ j, j < i → s j = nI (d j)) (ov_nc e) pq (fun j hj => absurd hj (by omega)) (fun n s hI => ?_) (fun n i s hi hI hk => ?_))
  · have := hrest s hI
    rw [← hPnc] at this
    exact br_t (nI_le (Nat.le_refl _) (by omega)) this
  · have hN := hw.2.2.2.2.2.2.2.2.1 i hi
    have hk3 := hN.1
    have hct := hw.2.2.2.2.2.2.2.1 i
    have hq : c / ov_P b i ≤ c := Nat.div_le_self _ _
    have hiv : vp_in (nI i) 12 := vp_in_nI (by omega) (by omega)
    have hpi : pa (nI i).toNatClampNeg = ov_bI (pb i) := by rw [nI_clamp (by omega)]; exact hpa i (by omega)
    have hdi : d i = ov_dg b c i := by rw [← hde]; exact ov_rd_dg (by omega)
    have same : b i = 1 → ov_gn e pb d (i + 1) = ov_gn e pb d i → wY_read_7 post (nI (ov_nc e)) to fi le be bo sa n (nI (c / ov_P b i)) (ov_bI (ov_gn e pb d i)) (nI (i + 1)) (ov_C (ov_cv e)) (ov_A (ov_hd e)) (ov_A (ov_s9 e)) (ov_A (ov_s3 e)) (ov_A (ov_s1 e)) (ov_A (ov_sc e)) (ov_A (ov_vs e)) (ov_A (ov_lt e)) (ov_A (ov_kd e)) (ov_A (ov_ct e)) yq yr tk pa (upd s i 0) pv yt := fun h1 h2 => by
      have hk' := hk (upd s i 0) (fun j hj => by
        by_cases hji : j = i
        · subst hji
          have : d j = 0 := by rw [hdi]; unfold ov_dg; rw [h1, Nat.mod_one]
          rw [pk_us, this]; rfl
        · rw [pk_un hji]; exact hI j (by omega))
      rw [ov_P1s h1, h2] at hk'
      exact hk'
    have set : ∀ m, b i = m → ∀ g, ov_gn e pb d (i + 1) = g → wY_read_7 post (nI (ov_nc e)) to fi le be bo sa n (nI (c / ov_P b i / m)) (ov_bI g) (nI (i + 1)) (ov_C (ov_cv e)) (ov_A (ov_hd e)) (ov_A (ov_s9 e)) (ov_A (ov_s3 e)) (ov_A (ov_s1 e)) (ov_A (ov_sc e)) (ov_A (ov_vs e)) (ov_A (ov_lt e)) (ov_A (ov_kd e)) (ov_A (ov_ct e)) yq yr tk pa (upd (upd s i 0) i (nI (c / ov_P b i % m))) pv yt := fun m h1 g h2 => by
      have hk' := hk (upd (upd s i 0) i (nI (c / ov_P b i % m))) (fun j hj => by
        by_cases hji : j = i
        · subst hji
          rw [pk_us, hdi]; unfold ov_dg; rw [h1]
        · rw [pk_un hji, pk_un hji]; exact hI j (by omega))
      rw [ov_dgd, h1, h2] at hk'
      exact hk'
    refine br_f (nI_ge hi (by omega)) (br_f (nI_ge (b := 12) (by omega) (by omega)) ⟨hiv, nm_r (e' := upd s i 0) (by rw [nI_clamp (by omega)]) ⟨hiv, ov_pc (b := pb i) hpi (fun hb => ?_) (fun hb => ⟨hiv, pk_eq (ov_kd e i) 0 (fun h0 => ?_) (fun h0 => ?_) (ov_AV (by omega)) rfl (by omega) (by omega)⟩)⟩⟩)
    · refine ⟨hiv, ov_pc (b := pb i) hpi (fun _ => nm_r (nI_1 _) ?_) (fun z => by rw [hb] at z; exact absurd z Bool.false_ne_true)⟩
      exact same (hb1 i (by omega) (fun z => by rw [hb] at z; exact absurd z Bool.false_ne_true)) (if_neg (by rw [hb]; exact Bool.false_ne_true))
    · have hbi := hb0 i (by omega) hb h0
      have hdm : d i = c / ov_P b i % 3 := by rw [hdi]; unfold ov_dg; rw [hbi]
      have hd3 : c / ov_P b i % 3 < 3 := Nat.mod_lt _ (by omega)
      have hg : ov_gn e pb d (i + 1) = (ov_gn e pb d i && ov_bit (ov_ct e i) (c / ov_P b i % 3)) := by
        show (if pb i = true then (ov_gn e pb d i && ov_g1 e d i) else ov_gn e pb d i) = _
        rw [if_pos hb]
        unfold ov_g1
        rw [if_pos h0, hdm]
      refine ⟨ov_33, hiv, nm_r (e' := upd (upd s i 0) i (nI (c / ov_P b i % 3))) (by rw [ov_rem3 (by omega), nI_clamp (by omega)]) ⟨ov_33, nm_r (ov_div3 (by omega)) ⟨hiv, hiv, ?_⟩⟩⟩
      rw [ov_AV (by omega), nI_clamp (show i < 2 ^ 31 by omega), pk_us]
      have fin : ∀ g : Bool, ov_gn e pb d (i + 1) = g → wY_read_87 post (wY_read_7 post (nI (ov_nc e)) to fi le be bo sa n) (nI (c / ov_P b i / 3)) (ov_bI g) (nI i) (nI (ov_nc e)) to fi le be bo sa (ov_C (ov_cv e)) (ov_A (ov_hd e)) (ov_A (ov_s9 e)) (ov_A (ov_s3 e)) (ov_A (ov_s1 e)) (ov_A (ov_sc e)) (ov_A (ov_vs e)) (ov_A (ov_lt e)) (ov_A (ov_kd e)) (ov_A (ov_ct e)) yq yr tk pa (upd (upd s i 0) i (nI (c / ov_P b i % 3))) pv yt := fun g hg' =>
        ⟨hiv, ov_pc (b := pb i) hpi (fun z => by rw [hb] at z; exact absurd z.symm Bool.false_ne_true) (fun _ => ⟨hiv, pk_eq (ov_kd e i) 3 (fun z => absurd z (by omega)) (fun _ => nm_r (nI_1 _) (set 3 hbi g hg')) (ov_AV (by omega)) rfl (by omega) (by omega)⟩)⟩
      refine ov_bit0 hct hd3 (fun hbit => ?_) (fun hbit => ?_)
      · rw [hbit, Bool.and_false] at hg
        exact fin false hg
      · rw [hbit, Bool.and_true] at hg
        exact fin _ hg
    · refine ⟨hiv, ov_pc (b := pb i) hpi (fun z => by rw [hb] at z; exact absurd z.symm Bool.false_ne_true) (fun _ => ⟨hiv, pk_eq (ov_kd e i) 3 (fun h3 => ?_) (fun h3 => ?_) (ov_AV (by omega)) rfl (by omega) (by omega)⟩)⟩
      · have hbi : b i = 4 := hb3 i (by omega) hb h3
        have hc3 := (hN.2.2.2 h3).1
        have hdm : d i = c / ov_P b i % 4 := by rw [hdi]; unfold ov_dg; rw [hbi]
        have hd4 : c / ov_P b i % 4 < 4 := Nat.mod_lt _ (by omega)
        have hh4 := hw.2.2.2.2.1 (ov_ct e i)
        have hg : ov_gn e pb d (i + 1) = (ov_gn e pb d i && decide (c / ov_P b i % 4 < ov_hd e (ov_ct e i))) := by
          show (if pb i = true then (ov_gn e pb d i && ov_g1 e d i) else ov_gn e pb d i) = _
          rw [if_pos hb]
          unfold ov_g1
          rw [if_neg h0, if_pos h3, hdm]
        refine ⟨ov_43, hiv, nm_r (e' := upd (upd s i 0) i (nI (c / ov_P b i % 4))) (by rw [ov_rem4 (by omega), nI_clamp (by omega)]) ⟨ov_43, nm_r (ov_div4 (by omega)) ⟨hiv, hiv, ?_⟩⟩⟩
        rw [ov_AV (by omega), nI_clamp (show i < 2 ^ 31 by omega), pk_us, ov_AV (by omega)]
        refine ⟨vp_in_nI hc3 (by omega), pk_lt (c / ov_P b i % 4) (ov_hd e (ov_ct e i)) (fun hlt => ?_) (fun hge => ?_)⟩
        · rw [decide_eq_true hlt, Bool.and_true] at hg
          exact nm_r (nI_1 _) (set 4 hbi _ hg)
        · rw [decide_eq_false (by omega), Bool.and_false] at hg
          exact nm_r (nI_1 _) (set 4 hbi false hg)
      · refine nm_r (nI_1 _) (same (hb1 i (by omega) (fun _ => by omega)) ?_)
        show (if pb i = true then (ov_gn e pb d i && ov_g1 e d i) else ov_gn e pb d i) = _
        rw [if_pos hb]
        unfold ov_g1
        rw [if_neg h0, if_neg h3, Bool.and_true]
end
end
section
/-! Y: the price of a way, all ways -/
theorem ov_neg1 : (-1 : Int32) < 0 := by decide
theorem ov_neg1' : ¬ (0 : Int32) ≤ -1 := by decide
section
variable {e : ov_E} {tk yq yr pa pq pv yt : Nat → Int32} {to fi le be bo sa : Int32}
theorem oy_price (hw : ov_W e) {pb : Nat → Bool} {node wanted : Nat} (hpb : ov_P1 e pb node) (hwa : wanted ≤ 3) (hpa : ∀ j, j < 12 → pa j = ov_bI (pb j)) (hq : ∀ n, n < ov_nc e → ov_kd e n = 3 → yq n = nI (ov_lf e n) ∧ yr n = nI (ov_rt e n)) {d : Nat → Nat} (hD : ov_D e pb d) (hG : ov_G e pb d) (hpq : ∀ j, j < ov_nc e → pq j = nI (d j)) (hpv : ∀ v, v < 2 → ov_nm e pb v 12 = true → pv v = nI (d (12 + v))) {post : Int32 → SY → Prop} (hp : ∀ yt', (∀ c, ov_co e pb node wanted d = some c → ∀ j, pb j = true → yt' j = nI (ov_ty e d j)) → post (ov_o (ov_co e pb node wanted d)) (nI (ov_nc e), to, fi, le, be, bo, sa, ov_C (ov_cv e), ov_A (ov_hd e), ov_A (ov_s9 e), ov_A (ov_s3 e), ov_A (ov_s1 e), ov_A (ov_sc e), ov_A (ov_vs e), ov_A (ov_lt e), ov_A (ov_kd e), ov_A (ov_ct e), yq, yr, tk, pa, pq, pv, yt')) : wpY_price post (nI (ov_nc e), to, fi, le, be, bo, sa, ov_C (ov_cv e), ov_A (ov_hd e), ov_A (ov_s9 e), ov_A (ov_s3 e), ov_A (ov_s1 e), ov_A (ov_sc e), ov_A (ov_vs e), ov_A (ov_lt e), ov_A (ov_kd e), ov_A (ov_ct e), yq, yr, tk, pa, pq, pv, yt) (nI node) (nI wanted) := by
  have h12 := hw.1
  have hn2 := hpb.1
  refine loop_0 (fun n i s => wY_price_5 post (nI node) (nI wanted) (nI (ov_nc e)) to fi le be bo sa n (nI s.1) (nI i) (ov_C (ov_cv e)) (ov_A (ov_hd e)) (ov_A (ov_s9 e)) (ov_A (ov_s3 e)) (ov_A (ov_s1 e)) (ov_A (ov_sc e)) (ov_A (ov_vs e)) (ov_A (ov_lt e)) (ov_A (ov_kd e)) (ov_A (ov_ct e)) yq yr tk pa pq pv s.2) (fun i s => ov_sm e pb d i = some s.1 ∧ ∀ j, j < i → pb j = true → s.2 j = nI (ov_ty e d j)) (node + 1) ((0 : Nat), yt) ⟨rfl, fun j hj => absurd hj (by omega)⟩ (fun n s hI => ?_) (fun n i s hi hI hk => ?_)
  · obtain ⟨sm, ty1⟩ := s
    obtain ⟨hs, ht⟩ := hI
    dsimp only at hs ht
    have ht' : ∀ j, pb j = true → ty1 j = nI (ov_ty e d j) := fun j hj => ht j (by have := hpb.2.1 j hj; omega) hj
    have hnode := ht' node hpb.2.2.1
    have hty3 := ov_ty_3 hw hpb hD hpb.2.2.1
    have h1 := hp ty1 (fun _ _ => ht')
    unfold ov_co at h1
    rw [hs] at h1
    refine br_t (nI_lt (by omega) (by omega)) (pk_eq wanted 3 (fun h3 => ?_) (fun h3 => ?_))
    · rw [if_pos h3] at h1; exact h1
    · rw [if_neg h3] at h1
      have hix : 3 * ty1 (nI node).toNatClampNeg + nI wanted = nI (3 * ov_ty e d node + wanted) := by
        rw [nI_clamp (by omega), hnode, ov_ix3]
      refine ⟨vp_in_nI (by omega) (by omega), by rw [hix]; exact vp_in_nI (by omega) (by omega), nm_r (e' := ov_o (ov_cv e (3 * ov_ty e d node + wanted))) (by rw [hix, nI_clamp (by omega)]; rfl) ?_⟩
      cases hA : ov_cv e (3 * ov_ty e d node + wanted) with
      | none => rw [hA, ov_pl_n] at h1; exact br_f ov_neg1' h1
      | some a =>
        have := hw.2.1 _ _ hA
        rw [hA] at h1
        refine br_t (nI_pos' (by omega)) ?_
        have he : nI sm + ov_o (some a) = ov_o (ov_pl (some sm) (some a)) := nI_add _ _
        rw [he]; exact h1
  · obtain ⟨sm, ty1⟩ := s
    obtain ⟨hs, ht⟩ := hI
    dsimp only at hs ht
    have hiv : vp_in (nI i) 12 := vp_in_nI (by omega) (by omega)
    refine br_f (nI_nlt (by omega) (by omega)) (br_f (nI_ge (b := 12) (by omega) (by omega)) ⟨hiv, ov_pc (b := pb i) (by rw [nI_clamp (by omega)]; exact hpa i (by omega)) (fun hb => ?_) (fun hb => ?_)⟩)
    · refine nm_r (nI_1 _) (hk (sm, ty1) ⟨(ov_sm_f hb).trans hs, fun j hj hpj => ?_⟩)
      by_cases hji : j = i
      · subst hji; rw [hb] at hpj; exact absurd hpj Bool.false_ne_true
      · exact ht j (by omega) hpj
    · have hty' : ∀ j, j < i + 1 → pb j = true → upd ty1 i (nI (ov_ty e d i)) j = nI (ov_ty e d j) := fun j hj hpj => by
        by_cases hji : j = i
        · subst hji; exact pk_us
        · rw [pk_un hji]; exact ht j (by omega) hpj
      have hsm : ov_sm e pb d (i + 1) = ov_pl (some sm) (ov_cp e d i) := by rw [ov_sm_s hb, hs]
      have hN := hw.2.2.2.2.2.2.2.2.1 i (by omega)
      have hk3 := hN.1
      have hDi := hD i hb
      have hGi := hG i hb
      have hct := hw.2.2.2.2.2.2.2.1 i
      have hpi : pq (nI i).toNatClampNeg = nI (d i) := by rw [nI_clamp (by omega)]; exact hpq i (by omega)
      have hki : ov_A (ov_kd e) (nI i).toNatClampNeg = nI (ov_kd e i) := ov_AV (by omega)
      refine ⟨hiv, pk_eq (ov_kd e i) 0 (fun h0 => ?_) (fun h0 => ⟨hiv, pk_eq (ov_kd e i) 1 (fun h1 => ?_) (fun h1 => ⟨hiv, pk_eq (ov_kd e i) 2 (fun h2 => ?_) (fun h2 => ?_) hki rfl (by omega) (by omega)⟩) hki rfl (by omega) (by omega)⟩) hki rfl (by omega) (by omega)⟩
      · have hd3 := hDi.1 h0
        have hg := hGi.1
        unfold ov_g1 at hg
        rw [if_pos h0] at hg
        rw [(ov_cp_0 h0).1, if_pos hg] at hsm
        rw [(ov_cp_0 h0).2] at hty'
        refine ⟨hiv, hiv, nm_r (e' := upd ty1 i (nI (d i))) (by rw [hpi, nI_clamp (by omega)]) ⟨hiv, by rw [hpi]; exact vp_in_nI hd3 (by omega), nm_r (e' := nI (sm + ov_lt e (d i))) (by rw [hpi, ov_AV (by omega), nI_add]) (nm_r (nI_1 _) (hk (_, _) ⟨hsm, hty'⟩))⟩⟩
      · have hd3 := hDi.2.1 h1
        have hc2 := hN.2.1 h1
        rw [(ov_cp_1 h1).1, if_pos (hGi.2 h1)] at hsm
        rw [(ov_cp_1 h1).2] at hty'
        have hvi : pv (ov_A (ov_ct e) (nI i).toNatClampNeg).toNatClampNeg = nI (d (12 + ov_ct e i)) := by
          rw [ov_AV (by omega), nI_clamp (by omega)]; exact hpv _ hc2 (ov_nm_of hb h1 12 (by omega))
        refine ⟨hiv, by rw [ov_AV (by omega)]; exact vp_in_nI hc2 (by omega), hiv, nm_r (e' := upd ty1 i (nI (d (12 + ov_ct e i)))) (by rw [hvi, nI_clamp (by omega)]) (nm_r (nI_1 _) (hk (sm, _) ⟨hsm, hty'⟩))⟩
      · rw [(ov_cp_2 h2).1] at hsm
        rw [(ov_cp_2 h2).2] at hty'
        exact ⟨hiv, hiv, nm_r (e' := upd ty1 i (nI (ov_ct e i))) (by rw [ov_AV (by omega), nI_clamp (by omega)]) (nm_r (nI_1 _) (hk (sm, _) ⟨hsm, hty'⟩))⟩
      · have h3 : ov_kd e i = 3 := by omega
        have hg := hGi.1
        unfold ov_g1 at hg
        rw [if_neg h0, if_pos h3] at hg
        have hdh := of_decide_eq_true hg
        have hh4 := hw.2.2.2.2.1 (ov_ct e i)
        obtain ⟨hc3, hln, hrn⟩ := hN.2.2.2 h3
        have hlr := hpb.2.2.2.1 i (Nat.zero_le _) hb h3
        have hl := ht _ hln hlr.1
        have hr := ht _ hrn hlr.2
        have hl3 := ov_ty_3 hw hpb hD hlr.1
        have hr3 := ov_ty_3 hw hpb hD hlr.2
        rw [ov_cp_3 h3 hdh] at hsm
        rw [ov_ty_33 h3] at hty'
        generalize hie : 4 * ov_ct e i + d i = ii at hsm hty'
        have hii : ii < 12 := by omega
        have hvi : vp_in (nI ii) 12 := vp_in_nI hii (by omega)
        have hst := hw.2.2.1 ii
        generalize htl : ov_ty e d (ov_lf e i) = tl at hsm hl hl3
        generalize htr : ov_ty e d (ov_rt e i) = tr at hsm hr hr3
        have ql : yq (nI i).toNatClampNeg = nI (ov_lf e i) := by rw [nI_clamp (by omega)]; exact (hq i (by omega) h3).1
        have qr : yr (nI i).toNatClampNeg = nI (ov_rt e i) := by rw [nI_clamp (by omega)]; exact (hq i (by omega) h3).2
        have hL : 3 * (upd ty1 i (nI (ov_st e ii % 3)) (yq (nI i).toNatClampNeg).toNatClampNeg) + ov_A (ov_s9 e) (nI ii).toNatClampNeg = nI (3 * tl + ov_st e ii / 9) := by
          rw [ql, nI_clamp (show ov_lf e i < 2 ^ 31 by omega), pk_un (by omega), hl, ov_AV (by omega), ov_ix3]; rfl
        have hR : 3 * (upd ty1 i (nI (ov_st e ii % 3)) (yr (nI i).toNatClampNeg).toNatClampNeg) + ov_A (ov_s3 e) (nI ii).toNatClampNeg = nI (3 * tr + ov_st e ii / 3 % 3) := by
          rw [qr, nI_clamp (show ov_rt e i < 2 ^ 31 by omega), pk_un (by omega), hr, ov_AV (by omega), ov_ix3]; rfl
        refine ⟨hiv, hiv, nm_r (e' := nI ii) (by rw [ov_AV (by omega), hpi, ov_ix4, hie]) ⟨hvi, hiv, nm_r (e' := upd ty1 i (nI (ov_st e ii % 3))) (by rw [ov_AV (by omega), nI_clamp (by omega)]; rfl) ?_⟩⟩
        refine ⟨hiv, by rw [ql]; exact vp_in_nI (by omega) (by omega), hvi, by rw [hL]; exact vp_in_nI (by omega) (by omega), nm_r (e' := ov_o (ov_cv e (3 * tl + ov_st e ii / 9))) (by rw [hL, nI_clamp (by omega)]; rfl) ?_⟩
        refine ⟨hiv, by rw [qr]; exact vp_in_nI (by omega) (by omega), hvi, by rw [hR]; exact vp_in_nI (by omega) (by omega), nm_r (e' := ov_o (ov_cv e (3 * tr + ov_st e ii / 3 % 3))) (by rw [hR, nI_clamp (by omega)]; rfl) ?_⟩
        unfold ov_ca at hsm
        have bad : ov_sm e pb d (i + 1) = none → post (-1) (nI (ov_nc e), to, fi, le, be, bo, sa, ov_C (ov_cv e), ov_A (ov_hd e), ov_A (ov_s9 e), ov_A (ov_s3 e), ov_A (ov_s1 e), ov_A (ov_sc e), ov_A (ov_vs e), ov_A (ov_lt e), ov_A (ov_kd e), ov_A (ov_ct e), yq, yr, tk, pa, pq, pv, upd ty1 i (nI (ov_st e ii % 3))) := fun hnone => by
          have hco := ov_co_n (wanted := wanted) (node := node) (by omega) hnone
          have h1 := hp (upd ty1 i (nI (ov_st e ii % 3))) (fun c h => by rw [hco] at h; cases h)
          rw [hco] at h1
          exact h1
        cases hA : ov_cv e (3 * tl + ov_st e ii / 9) with
        | none =>
          rw [hA, ov_pl_n, ov_pl_n', ov_pl_n] at hsm
          exact br_t ov_neg1 (bad hsm)
        | some a =>
          have ha := hw.2.1 _ _ hA
          rw [hA] at hsm
          refine br_f (nI_pos (by omega)) ?_
          cases hB : ov_cv e (3 * tr + ov_st e ii / 3 % 3) with
          | none =>
            rw [hB, ov_pl_n, ov_pl_n] at hsm
            exact br_f ov_neg1' (bad hsm)
          | some b =>
            have hb := hw.2.1 _ _ hB
            rw [hB] at hsm
            refine br_t (nI_pos' (by omega)) ⟨hvi, nm_r (e' := nI (sm + (ov_sc e ii + a + b))) ?_ (nm_r (nI_1 _) (hk (_, _) ⟨hsm, hty'⟩))⟩
            rw [ov_AV (by omega)]
            show nI _ + (nI _ + nI _ + nI _) = nI _
            rw [nI_add, nI_add, nI_add]
end
def ov_YC (e : ov_E) (pb : Nat → Bool) (asked : Int32) (t : ov_T) (fi le be bo sa : Int32) : Prop := fi = nI t.1 ∧ (t.1 = 0 → le = -3 ∧ be = 0) ∧ (t.1 ≠ 0 → le = nI t.2.1 ∧ be = nI (t.2.2.2 t.2.1) ∧ ∃ c, c < ov_P (ov_b e pb ov_4) 14 ∧ bo = nI c ∧ t.2.2.1 = ov_rd (ov_b e pb ov_4) 14 c ov_z) ∧ (∀ a, a < 127 → asked = nI a → sa = nI (t.2.2.2 a)) ∧ ((∀ a, a < 127 → ¬ asked = nI a) → sa = 0)
section
variable {e : ov_E} {tk yq yr pa pq pv yt : Nat → Int32} {to fi le be bo sa : Int32}
theorem oy_tally (hw : ov_W e) {pb : Nat → Bool} {node wanted : Nat} (hpb : ov_P1 e pb node) {asked : Int32} {t : ov_T} {m : Nat} (hm : m < 2 ^ 31) (hT : ov_TI e pb node wanted m t) {c : Nat} (hc : c < ov_P (ov_b e pb ov_4) 14) {x : Nat} (hco : ov_co e pb node wanted (ov_rd (ov_b e pb ov_4) 14 c ov_z) = some x) (hle : t.1 = 0 → le = -3 ∧ be = 0) (hle' : t.1 ≠ 0 → le = nI t.2.1 ∧ be = nI (t.2.2.2 t.2.1) ∧ ∃ c, c < ov_P (ov_b e pb ov_4) 14 ∧ bo = nI c ∧ t.2.2.1 = ov_rd (ov_b e pb ov_4) 14 c ov_z) (hfi : fi = nI (t.1 + 1)) (hsa : (∀ a, a < 127 → asked = nI a → sa = nI (ov_u t.2.2.2 x (t.2.2.2 x + 1) a)) ∧ ((∀ a, a < 127 → ¬ asked = nI a) → sa = 0)) {post : SY → Prop} {J : Int32 → Int32 → Int32 → Int32 → Int32 → Int32 → Int32 → Int32 → (Nat → Int32) → (Nat → Int32) → (Nat → Int32) → (Nat → Int32) → (Nat → Int32) → (Nat → Int32) → (Nat → Int32) → (Nat → Int32) → (Nat → Int32) → (Nat → Int32) → (Nat → Int32) → (Nat → Int32) → (Nat → Int32) → (Nat → Int32) → (Nat → Int32) → (Nat → Int32) → (Nat → Int32) → Prop} (h : ∀ fi' le' be' bo' sa', ov_YC e pb asked (ov_en e pb node wanted (ov_rd (ov_b e pb ov_4) 14 c ov_z) t) fi' le' be' bo' sa' → J (nI (c + 1)) (nI (ov_nc e)) to fi' le' be' bo' sa' (ov_C (ov_cv e)) (ov_A (ov_hd e)) (ov_A (ov_s9 e)) (ov_A (ov_s3 e)) (ov_A (ov_s1 e)) (ov_A (ov_sc e)) (ov_A (ov_vs e)) (ov_A (ov_lt e)) (ov_A (ov_kd e)) (ov_A (ov_ct e)) yq yr tk pa pq pv yt) : wY_tryAll_91 post J (nI node) (nI wanted) asked (nI c) (nI x) (nI (ov_nc e)) to fi le be bo sa (ov_C (ov_cv e)) (ov_A (ov_hd e)) (ov_A (ov_s9 e)) (ov_A (ov_s3 e)) (ov_A (ov_s1 e)) (ov_A (ov_sc e)) (ov_A (ov_vs e)) (ov_A (ov_lt e)) (ov_A (ov_kd e)) (ov_A (ov_ct e)) yq yr tk pa pq pv yt := by
  have hx127 := ov_co_le hw hpb hco
  obtain ⟨sz, lw, bd, hh⟩ := t
  obtain ⟨hT1, hT2, hT3, hT4⟩ := hT
  rw [ov_en_s hco] at h
  dsimp only at hT1 hT2 hT3 hT4 h hle hle' hfi hsa
  have low : sz = 0 ∨ x < lw → wY_tryAll_107 post J (nI node) (nI wanted) asked (nI c) (nI x) (nI (ov_nc e)) to fi le be bo sa (ov_C (ov_cv e)) (ov_A (ov_hd e)) (ov_A (ov_s9 e)) (ov_A (ov_s3 e)) (ov_A (ov_s1 e)) (ov_A (ov_sc e)) (ov_A (ov_vs e)) (ov_A (ov_lt e)) (ov_A (ov_kd e)) (ov_A (ov_ct e)) yq yr tk pa pq pv yt := fun hl => by
    rw [if_pos hl, if_pos hl] at h
    have hz : hh x = 0 := by
      by_cases h0 : sz = 0
      · exact hT3 h0 x
      · exact (hT4 h0).2.2.1 x (by omega)
    refine br_t rfl (nm_r (e' := nI 1) rfl (nm_r (nI_1 _) (h _ _ _ _ _ ⟨hfi, fun z => absurd z (Nat.succ_ne_zero _), fun _ => ⟨rfl, ?_, c, hc, rfl, rfl⟩, hsa.1, hsa.2⟩)))
    show nI 1 = nI (ov_u hh x (hh x + 1) x)
    rw [ov_us, hz]
  by_cases h0 : sz = 0
  · have hl := (hle h0).1
    subst hl
    exact br_t (by decide) (low (Or.inl h0))
  · have h4 := hT4 h0
    obtain ⟨hl, hb, cc, hcc⟩ := hle' h0
    subst hl
    have hh2 := hT2 lw
    refine br_f (nI_pos (by omega)) (pk_le lw x (fun hlex => ?_) (fun hlt => low (Or.inr hlt)))
    have hneg : ¬ (sz = 0 ∨ x < lw) := fun z => by omega
    rw [if_neg hneg, if_neg hneg] at h
    refine pk_eq x lw (fun heq => ?_) (fun hne => ?_)
    · refine nm_r (e' := nI (hh lw + 1)) (by rw [hb, nI_1]) (nm_r (nI_1 _) (h _ _ _ _ _ ⟨hfi, fun z => absurd z (Nat.succ_ne_zero _), fun _ => ⟨rfl, ?_, cc, hcc⟩, hsa.1, hsa.2⟩))
      show nI (hh lw + 1) = nI (ov_u hh x (hh x + 1) lw)
      rw [heq, ov_us]
    · refine nm_r (nI_1 _) (h _ _ _ _ _ ⟨hfi, fun z => absurd z (Nat.succ_ne_zero _), fun _ => ⟨rfl, ?_, cc, hcc⟩, hsa.1, hsa.2⟩)
      show be = nI (ov_u hh x (hh x + 1) lw)
      rw [ov_un (fun z => hne z.symm)]
      exact hb
theorem oy_tryAll_loop (hw : ov_W e) {pb : Nat → Bool} {node wanted : Nat} (hpb : ov_P1 e pb node) (hwa : wanted ≤ 3) (hpa : ∀ j, j < 12 → pa j = ov_bI (pb j)) (hq : ∀ n, n < ov_nc e → ov_kd e n = 3 → yq n = nI (ov_lf e n) ∧ yr n = nI (ov_rt e n)) {asked : Int32} {post : SY → Prop} (h : ∀ fi' le' be' bo' sa' pq' pv' yt', ov_YC e pb asked (ov_rn e pb node wanted (ov_b e pb ov_4) (ov_P (ov_b e pb ov_4) 14)) fi' le' be' bo' sa' → post (nI (ov_nc e), nI (ov_P (ov_b e pb ov_4) 14), fi', le', be', bo', sa', ov_C (ov_cv e), ov_A (ov_hd e), ov_A (ov_s9 e), ov_A (ov_s3 e), ov_A (ov_s1 e), ov_A (ov_sc e), ov_A (ov_vs e), ov_A (ov_lt e), ov_A (ov_kd e), ov_A (ov_ct e), yq, yr, tk, pa, pq', pv', yt')) : ∃ n, wY_tryAll_34 post (nI node) (nI wanted) asked n 0 (nI (ov_nc e)) (nI (ov_P (ov_b e pb ov_4) 14)) 0 (-3) 0 0 0 (ov_C (ov_cv e)) (ov_A (ov_hd e)) (ov_A (ov_s9 e)) (ov_A (ov_s3 e)) (ov_A (ov_s1 e)) (ov_A (ov_sc e)) (ov_A (ov_vs e)) (ov_A (ov_lt e)) (ov_A (ov_kd e)) (ov_A (ov_ct e)) yq yr tk pa pq pv yt := by
  have hP := ov_P14 (e := e) (pb := pb) (a := ov_4) ov_4_le (Nat.le_refl 14)
  refine loop_0 (fun n c (s : Int32 × Int32 × Int32 × Int32 × Int32 × (Nat → Int32) × (Nat → Int32) × (Nat → Int32)) => wY_tryAll_34 post (nI node) (nI wanted) asked n (nI c) (nI (ov_nc e)) (nI (ov_P (ov_b e pb ov_4) 14)) s.1 s.2.1 s.2.2.1 s.2.2.2.1 s.2.2.2.2.1 (ov_C (ov_cv e)) (ov_A (ov_hd e)) (ov_A (ov_s9 e)) (ov_A (ov_s3 e)) (ov_A (ov_s1 e)) (ov_A (ov_sc e)) (ov_A (ov_vs e)) (ov_A (ov_lt e)) (ov_A (ov_kd e)) (ov_A (ov_ct e)) yq yr tk pa s.2.2.2.2.2.1 s.2.2.2.2.2.2.1 s.2.2.2.2.2.2.2)
    (fun c s => ov_YC e pb asked (ov_rn e pb node wanted (ov_b e pb ov_4) c) s.1 s.2.1 s.2.2.1 s.2.2.2.1 s.2.2.2.2.1)
    (ov_P (ov_b e pb ov_4) 14) (0, -3, 0, 0, 0, pq, pv, yt) ⟨rfl, fun _ => ⟨rfl, rfl⟩, fun z => absurd rfl z, fun _ _ _ => rfl, fun _ => rfl⟩ (fun n s hI => ?_) (fun n c s hc hI hk => ?_)
  · exact br_t (nI_le (Nat.le_refl _) (by omega)) (h _ _ _ _ _ _ _ _ hI)
  · obtain ⟨fi1, le1, be1, bo1, sa1, pq1, pv1, yt1⟩ := s
    dsimp only at hI
    have hT := ov_rn_TI (wanted := wanted) hw hpb (ov_b e pb ov_4) c
    rw [ov_rn_s] at hk
    generalize ov_rn e pb node wanted (ov_b e pb ov_4) c = t at hI hT hk
    refine br_f (nI_ge hc (by omega)) (oy_read hw hpb hpa hc (fun pq' pv' hpq hpv => ?_))
    have hlt : ∀ j, j < 14 → ov_rd (ov_b e pb ov_4) 14 c ov_z j < ov_b e pb ov_4 j := fun j hj => ov_rd_lt hc hj
    have hD := ov_D_of hw hpb ov_4_le hlt
    refine ov_pc rfl (fun hg => ?_) (fun hg => ?_)
    · cases hco : ov_co e pb node wanted (ov_rd (ov_b e pb ov_4) 14 c ov_z) with
      | none =>
        rw [ov_en_n hco] at hk
        exact nm_r (nI_1 _) (hk (fi1, le1, be1, bo1, sa1, pq', pv', yt1) hI)
      | some x =>
        have := (ov_gG_t hw hpb).mpr (ov_co_G hw hpb hco)
        rw [hg] at this
        exact absurd this Bool.false_ne_true
    · refine oy_price hw hpb hwa hpa hq hD ((ov_gG_t hw hpb).mp hg) hpq hpv (fun yt' _ => ?_)
      cases hco : ov_co e pb node wanted (ov_rd (ov_b e pb ov_4) 14 c ov_z) with
      | none =>
        rw [ov_en_n hco] at hk
        exact br_t ov_neg1 (nm_r (nI_1 _) (hk (fi1, le1, be1, bo1, sa1, pq', pv', yt') hI))
      | some x =>
        have hx127 := ov_co_le hw hpb hco
        obtain ⟨i1, i2, i3, i4, i5⟩ := hI
        refine br_f (nI_pos (by omega)) (nm_r (e' := nI (t.1 + 1)) (by rw [i1, nI_1]) ?_)
        have fin : ∀ sa', ((∀ a, a < 127 → asked = nI a → sa' = nI (ov_u t.2.2.2 x (t.2.2.2 x + 1) a)) ∧ ((∀ a, a < 127 → ¬ asked = nI a) → sa' = 0)) → wY_tryAll_91 post (wY_tryAll_34 post (nI node) (nI wanted) asked n) (nI node) (nI wanted) asked (nI c) (nI x) (nI (ov_nc e)) (nI (ov_P (ov_b e pb ov_4) 14)) (nI (t.1 + 1)) le1 be1 bo1 sa' (ov_C (ov_cv e)) (ov_A (ov_hd e)) (ov_A (ov_s9 e)) (ov_A (ov_s3 e)) (ov_A (ov_s1 e)) (ov_A (ov_sc e)) (ov_A (ov_vs e)) (ov_A (ov_lt e)) (ov_A (ov_kd e)) (ov_A (ov_ct e)) yq yr tk pa pq' pv' yt' := fun sa' hsa =>
          oy_tally hw hpb (m := c) (by omega) hT hc hco i2 i3 rfl hsa (fun fi' le' be' bo' sa'' hy => hk (fi', le', be', bo', sa'', pq', pv', yt') hy)
        by_cases hax : ov_o (some x) = asked
        · refine br_t hax (nm_r (e' := nI (t.2.2.2 x + 1)) (by rw [i4 x hx127 hax.symm, nI_1]) (fin _ ⟨fun a ha haa => ?_, fun hno => absurd hax.symm (hno x hx127)⟩))
          have : nI x = nI a := hax.trans haa
          have := (nI_eq (by omega) (by omega)).mp this
          subst this
          rw [ov_us]
        · refine br_f hax (fin _ ⟨fun a ha haa => ?_, i5⟩)
          rw [ov_un (fun z => hax (by rw [haa, z]; rfl))]
          exact i4 a ha haa
theorem oy_tryAll (hw : ov_W e) {node wanted : Nat} (hn : node < ov_nc e) (hwa : wanted ≤ 3) (hq : ∀ n, n < ov_nc e → ov_kd e n = 3 → yq n = nI (ov_lf e n) ∧ yr n = nI (ov_rt e n)) {asked : Int32} {post : SY → Prop} (h : ∀ fi' le' be' bo' sa' pa' pq' pv' yt', (∀ j, j < 12 → pa' j = ov_bI (ov_pb e node j)) → ov_YC e (ov_pb e node) asked (ov_rn e (ov_pb e node) node wanted (ov_b e (ov_pb e node) ov_4) (ov_P (ov_b e (ov_pb e node) ov_4) 14)) fi' le' be' bo' sa' → post (nI (ov_nc e), nI (ov_P (ov_b e (ov_pb e node) ov_4) 14), fi', le', be', bo', sa', ov_C (ov_cv e), ov_A (ov_hd e), ov_A (ov_s9 e), ov_A (ov_s3 e), ov_A (ov_s1 e), ov_A (ov_sc e), ov_A (ov_vs e), ov_A (ov_lt e), ov_A (ov_kd e), ov_A (ov_ct e), yq, yr, tk, pa', pq', pv', yt')) : wpY_tryAll post (nI (ov_nc e), to, fi, le, be, bo, sa, ov_C (ov_cv e), ov_A (ov_hd e), ov_A (ov_s9 e), ov_A (ov_s3 e), ov_A (ov_s1 e), ov_A (ov_sc e), ov_A (ov_vs e), ov_A (ov_lt e), ov_A (ov_kd e), ov_A (ov_ct e), yq, yr, tk, pa, pq, pv, yt) (nI node) (nI wanted) asked := by
  have hpb : ov_P1 e (ov_pb e node) node := ⟨hn, ov_pb_pi hw hn⟩
  unfold wpY_tryAll
  dsimp only
  refine oy_mark hw hn hq (fun s hs1 => ?_)
  exact oy_tryAll_loop hw hpb hwa hs1 hq (fun fi' le' be' bo' sa' pq' pv' yt' hy => h _ _ _ _ _ _ _ _ _ hs1 hy)
end
end
section
/-! the questions -/
def ov_bn (t : ov_T) : Nat := if t.1 = 0 then 0 else t.2.2.2 t.2.1
section
variable {e : ov_E} {tk pt op ch ty hs bc bt yq yr pa pq pv yt : Nat → Int32} {so lo to fi le be bo sa : Int32}
theorem ox_ref_1 (hw : ov_W e) {x y : Int32} (h : ¬ ov_in 0 (ov_nc e) x) {post : Int32 → Prop} (hp : post (-1)) : wpX_refusalOfQuestion post (nI (ov_nc e), nI (ov_ac e), so, lo, ov_C (ov_cv e), ov_A (ov_st e), ov_A (ov_sc e), ov_A (ov_hd e), ov_A (ov_vs e), ov_A (ov_lt e), ov_A (ov_kd e), ov_A (ov_ct e), ov_A (ov_lf e), ov_A (ov_rt e), tk, pt, op, ch, ty, hs, bc, bt) x y := by
  unfold wpX_refusalOfQuestion
  dsimp only
  exact ox_isNode_f hw h (br_t rfl hp)
theorem ox_ref_2 (hw : ov_W e) {x y : Int32} (h : ov_in 0 (ov_nc e) x) (h2 : ¬ ov_in 0 4 y) {post : Int32 → Prop} (hp : post (-2)) : wpX_refusalOfQuestion post (nI (ov_nc e), nI (ov_ac e), so, lo, ov_C (ov_cv e), ov_A (ov_st e), ov_A (ov_sc e), ov_A (ov_hd e), ov_A (ov_vs e), ov_A (ov_lt e), ov_A (ov_kd e), ov_A (ov_ct e), ov_A (ov_lf e), ov_A (ov_rt e), tk, pt, op, ch, ty, hs, bc, bt) x y := by
  unfold wpX_refusalOfQuestion
  dsimp only
  refine ox_isNode_t hw h (br_f ov_10 (ox_isType_f (fun z => h2 ?_) (br_t rfl (br_f (fun z => h2 ?_) hp))))
  · obtain ⟨j, a, b, c⟩ := z
    exact ⟨j, a, by omega, c⟩
  · exact ⟨3, by omega, by omega, z⟩
theorem ox_ref_0 (hw : ov_W e) {x y : Int32} (h : ov_in 0 (ov_nc e) x) (h2 : ov_in 0 4 y) {post : Int32 → Prop} (hp : post 0) : wpX_refusalOfQuestion post (nI (ov_nc e), nI (ov_ac e), so, lo, ov_C (ov_cv e), ov_A (ov_st e), ov_A (ov_sc e), ov_A (ov_hd e), ov_A (ov_vs e), ov_A (ov_lt e), ov_A (ov_kd e), ov_A (ov_ct e), ov_A (ov_lf e), ov_A (ov_rt e), tk, pt, op, ch, ty, hs, bc, bt) x y := by
  unfold wpX_refusalOfQuestion
  dsimp only
  refine ox_isNode_t hw h (br_f ov_10 ?_)
  obtain ⟨j, a, b, rfl⟩ := h2
  by_cases hj : j = 3
  · subst hj
    exact ox_isType_f (fun z => by
      obtain ⟨j, _, b', c⟩ := z
      have := (nI_eq (by omega) (by omega)).mp c
      omega) (br_t rfl (br_t rfl hp))
  · exact ox_isType_t ⟨j, a, by omega, rfl⟩ (br_f ov_10 hp)
theorem ox_countOfBest {pb : Nat → Bool} {node wanted n : Nat} {t : ov_T} (hn : n < 2 ^ 31) (hT : ov_TI e pb node wanted n t) (hX : ov_XC e pb t so lo hs bc bt) {post : Int32 → Prop} (hp : post (nI (ov_bn t))) : wpX_countOfBest post (nI (ov_nc e), nI (ov_ac e), so, lo, ov_C (ov_cv e), ov_A (ov_st e), ov_A (ov_sc e), ov_A (ov_hd e), ov_A (ov_vs e), ov_A (ov_lt e), ov_A (ov_kd e), ov_A (ov_ct e), ov_A (ov_lf e), ov_A (ov_rt e), tk, pt, op, ch, ty, hs, bc, bt) := by
  obtain ⟨h1, h2, h3⟩ := hX
  have hT1 := hT.1
  unfold ov_bn at hp
  refine pk_eq t.1 0 (fun h0 => ?_) (fun h0 => ?_) h1 rfl (by omega) (by omega)
  · rw [if_pos h0] at hp; exact hp
  · rw [if_neg h0] at hp
    have h4 := hT.2.2.2 h0
    have hl := (h2 h0).1
    refine ⟨by rw [hl]; exact vp_in_nI h4.1 (by omega), ?_⟩
    rw [hl, nI_clamp (by omega), h3 _ h4.1]
    exact hp
theorem ov_YC_be {pb : Nat → Bool} {asked : Int32} {t : ov_T} (hY : ov_YC e pb asked t fi le be bo sa) : be = nI (ov_bn t) := by
  unfold ov_bn
  by_cases h0 : t.1 = 0
  · rw [if_pos h0]; exact (hY.2.1 h0).2
  · rw [if_neg h0]; exact (hY.2.2.1 h0).2.1
/-- both sides' ends, of one record of the ways -/
theorem ov_both (hw : ov_W e) {node wanted : Nat} (hn : node < ov_nc e) : ∃ t : ov_T, ov_TI e (ov_pb e node) node wanted 268435456 t ∧ ov_rn e (ov_pb e node) node wanted (ov_b e (ov_pb e node) (ov_hc e)) (ov_P (ov_b e (ov_pb e node) (ov_hc e)) 14) = t ∧ ov_rn e (ov_pb e node) node wanted (ov_b e (ov_pb e node) ov_4) (ov_P (ov_b e (ov_pb e node) ov_4) 14) = t := by
  have hpb : ov_P1 e (ov_pb e node) node := ⟨hn, ov_pb_pi hw hn⟩
  have hP := ov_P14 (e := e) (pb := ov_pb e node) (a := ov_4) ov_4_le (Nat.le_refl 14)
  have hT := ov_rn_TI (wanted := wanted) hw hpb (ov_b e (ov_pb e node) ov_4) (ov_P (ov_b e (ov_pb e node) ov_4) 14)
  exact ⟨_, ⟨Nat.le_trans hT.1 hP, hT.2⟩, ov_rn_XY hw hpb wanted, rfl⟩
end
theorem i_vc_solutions {k : Nat} {u : SX} {v : SY} (I : i_Rel k u v) (hk : k + 4 ≤ 2048) (v1 : Int32) (v2 : Int32) : wpX_solutions (fun r u' => wpY_solutions (fun r' v' => r' = r ∧ i_Rel (k + 4) u' v') v v1 v2) u v1 v2 := by
  obtain ⟨e, tk, pt, op, ch, ty, hs, bc, bt, yq, yr, pa, pq, pv, yt, so, lo, to, fi, le, be, bo, sa, rfl, rfl, hw, hq⟩ := I
  have R0 : i_Rel (k + 4) (nI (ov_nc e), nI (ov_ac e), so, lo, ov_C (ov_cv e), ov_A (ov_st e), ov_A (ov_sc e), ov_A (ov_hd e), ov_A (ov_vs e), ov_A (ov_lt e), ov_A (ov_kd e), ov_A (ov_ct e), ov_A (ov_lf e), ov_A (ov_rt e), tk, pt, op, ch, ty, hs, bc, bt) (nI (ov_nc e), to, fi, le, be, bo, sa, ov_C (ov_cv e), ov_A (ov_hd e), ov_A (ov_s9 e), ov_A (ov_s3 e), ov_A (ov_s1 e), ov_A (ov_sc e), ov_A (ov_vs e), ov_A (ov_lt e), ov_A (ov_kd e), ov_A (ov_ct e), yq, yr, tk, pa, pq, pv, yt) := ov_mkR hw hq
  unfold wpX_solutions wpY_solutions
  dsimp only
  by_cases h1 : ov_in 0 (ov_nc e) v1
  · by_cases h2 : ov_in 0 4 v2
    · refine ox_ref_0 hw h1 h2 (br_t rfl ?_)
      have h1' := h1
      have h2' := h2
      obtain ⟨node, _, hn, rfl⟩ := h1
      obtain ⟨wanted, _, hwa, rfl⟩ := h2
      obtain ⟨t, hT, tX, tY⟩ := ov_both (wanted := wanted) hw hn
      refine ox_survey hw hn (by omega) (fun so' lo' pt' op' ch' ty' hs' bc' bt' hpt hX => ?_)
      rw [tX] at hX
      refine oy_badNode_t hw h1' (br_t rfl (ov_yt 0 3 h2' (oy_tryAll hw hn (by omega) hq (fun fi' le' be' bo' sa' pa' pq' pv' yt' hpa hY => ?_))))
      rw [tY] at hY
      exact ⟨hY.1.trans hX.1.symm, ov_mkR hw hq⟩
    · exact ox_ref_2 hw h1 h2 (br_f (by decide) (oy_badNode_t hw h1 (br_t rfl (ov_yf 0 3 h2 ⟨rfl, R0⟩ ⟨rfl, R0⟩))))
  · exact ox_ref_1 hw h1 (br_f (by decide) (oy_badNode_f hw h1 (br_f ov_10 ⟨rfl, R0⟩)))
theorem i_vc_leastCost {k : Nat} {u : SX} {v : SY} (I : i_Rel k u v) (hk : k + 4 ≤ 2048) (v1 : Int32) (v2 : Int32) : wpX_leastCost (fun r u' => wpY_leastCost (fun r' v' => r' = r ∧ i_Rel (k + 4) u' v') v v1 v2) u v1 v2 := by
  obtain ⟨e, tk, pt, op, ch, ty, hs, bc, bt, yq, yr, pa, pq, pv, yt, so, lo, to, fi, le, be, bo, sa, rfl, rfl, hw, hq⟩ := I
  have R0 : i_Rel (k + 4) (nI (ov_nc e), nI (ov_ac e), so, lo, ov_C (ov_cv e), ov_A (ov_st e), ov_A (ov_sc e), ov_A (ov_hd e), ov_A (ov_vs e), ov_A (ov_lt e), ov_A (ov_kd e), ov_A (ov_ct e), ov_A (ov_lf e), ov_A (ov_rt e), tk, pt, op, ch, ty, hs, bc, bt) (nI (ov_nc e), to, fi, le, be, bo, sa, ov_C (ov_cv e), ov_A (ov_hd e), ov_A (ov_s9 e), ov_A (ov_s3 e), ov_A (ov_s1 e), ov_A (ov_sc e), ov_A (ov_vs e), ov_A (ov_lt e), ov_A (ov_kd e), ov_A (ov_ct e), yq, yr, tk, pa, pq, pv, yt) := ov_mkR hw hq
  unfold wpX_leastCost wpY_leastCost
  dsimp only
  by_cases h1 : ov_in 0 (ov_nc e) v1
  · by_cases h2 : ov_in 0 4 v2
    · refine ox_ref_0 hw h1 h2 (br_t rfl ?_)
      have h1' := h1
      have h2' := h2
      obtain ⟨node, _, hn, rfl⟩ := h1
      obtain ⟨wanted, _, hwa, rfl⟩ := h2
      obtain ⟨t, hT, tX, tY⟩ := ov_both (wanted := wanted) hw hn
      refine ox_survey hw hn (by omega) (fun so' lo' pt' op' ch' ty' hs' bc' bt' hpt hX => ?_)
      rw [tX] at hX
      have hT1 := hT.1
      refine pk_eq t.1 0 (fun h0 => ?_) (fun h0 => ?_) hX.1 rfl (by omega) (by omega)
      · refine oy_badNode_t hw h1' (br_t rfl (ov_yt 0 3 h2' (oy_tryAll hw hn (by omega) hq (fun fi' le' be' bo' sa' pa' pq' pv' yt' hpa hY => ?_))))
        rw [tY] at hY
        exact ⟨(hY.2.1 h0).1, ov_mkR hw hq⟩
      · refine oy_badNode_t hw h1' (br_t rfl (ov_yt 0 3 h2' (oy_tryAll hw hn (by omega) hq (fun fi' le' be' bo' sa' pa' pq' pv' yt' hpa hY => ?_))))
        rw [tY] at hY
        exact ⟨(hY.2.2.1 h0).1.trans (hX.2.1 h0).1.symm, ov_mkR hw hq⟩
    · exact ox_ref_2 hw h1 h2 (br_f (by decide) (oy_badNode_t hw h1 (br_t rfl (ov_yf 0 3 h2 ⟨rfl, R0⟩ ⟨rfl, R0⟩))))
  · exact ox_ref_1 hw h1 (br_f (by decide) (oy_badNode_f hw h1 (br_f ov_10 ⟨rfl, R0⟩)))
theorem i_vc_bestCount {k : Nat} {u : SX} {v : SY} (I : i_Rel k u v) (hk : k + 4 ≤ 2048) (v1 : Int32) (v2 : Int32) : wpX_bestCount (fun r u' => wpY_bestCount (fun r' v' => r' = r ∧ i_Rel (k + 4) u' v') v v1 v2) u v1 v2 := by
  obtain ⟨e, tk, pt, op, ch, ty, hs, bc, bt, yq, yr, pa, pq, pv, yt, so, lo, to, fi, le, be, bo, sa, rfl, rfl, hw, hq⟩ := I
  have R0 : i_Rel (k + 4) (nI (ov_nc e), nI (ov_ac e), so, lo, ov_C (ov_cv e), ov_A (ov_st e), ov_A (ov_sc e), ov_A (ov_hd e), ov_A (ov_vs e), ov_A (ov_lt e), ov_A (ov_kd e), ov_A (ov_ct e), ov_A (ov_lf e), ov_A (ov_rt e), tk, pt, op, ch, ty, hs, bc, bt) (nI (ov_nc e), to, fi, le, be, bo, sa, ov_C (ov_cv e), ov_A (ov_hd e), ov_A (ov_s9 e), ov_A (ov_s3 e), ov_A (ov_s1 e), ov_A (ov_sc e), ov_A (ov_vs e), ov_A (ov_lt e), ov_A (ov_kd e), ov_A (ov_ct e), yq, yr, tk, pa, pq, pv, yt) := ov_mkR hw hq
  unfold wpX_bestCount wpY_bestCount
  dsimp only
  by_cases h1 : ov_in 0 (ov_nc e) v1
  · by_cases h2 : ov_in 0 4 v2
    · refine ox_ref_0 hw h1 h2 (br_t rfl ?_)
      have h1' := h1
      have h2' := h2
      obtain ⟨node, _, hn, rfl⟩ := h1
      obtain ⟨wanted, _, hwa, rfl⟩ := h2
      obtain ⟨t, hT, tX, tY⟩ := ov_both (wanted := wanted) hw hn
      refine ox_survey hw hn (by omega) (fun so' lo' pt' op' ch' ty' hs' bc' bt' hpt hX => ?_)
      rw [tX] at hX
      refine ox_countOfBest (by omega) hT hX ?_
      refine oy_badNode_t hw h1' (br_t rfl (ov_yt 0 3 h2' (oy_tryAll hw hn (by omega) hq (fun fi' le' be' bo' sa' pa' pq' pv' yt' hpa hY => ?_))))
      rw [tY] at hY
      exact ⟨ov_YC_be hY, ov_mkR hw hq⟩
    · exact ox_ref_2 hw h1 h2 (br_f (by decide) (oy_badNode_t hw h1 (br_t rfl (ov_yf 0 3 h2 ⟨rfl, R0⟩ ⟨rfl, R0⟩))))
  · exact ox_ref_1 hw h1 (br_f (by decide) (oy_badNode_f hw h1 (br_f ov_10 ⟨rfl, R0⟩)))
theorem i_vc_withCost {k : Nat} {u : SX} {v : SY} (I : i_Rel k u v) (hk : k + 4 ≤ 2048) (v1 : Int32) (v2 : Int32) (v3 : Int32) : wpX_withCost (fun r u' => wpY_withCost (fun r' v' => r' = r ∧ i_Rel (k + 4) u' v') v v1 v2 v3) u v1 v2 v3 := by
  obtain ⟨e, tk, pt, op, ch, ty, hs, bc, bt, yq, yr, pa, pq, pv, yt, so, lo, to, fi, le, be, bo, sa, rfl, rfl, hw, hq⟩ := I
  have R0 : i_Rel (k + 4) (nI (ov_nc e), nI (ov_ac e), so, lo, ov_C (ov_cv e), ov_A (ov_st e), ov_A (ov_sc e), ov_A (ov_hd e), ov_A (ov_vs e), ov_A (ov_lt e), ov_A (ov_kd e), ov_A (ov_ct e), ov_A (ov_lf e), ov_A (ov_rt e), tk, pt, op, ch, ty, hs, bc, bt) (nI (ov_nc e), to, fi, le, be, bo, sa, ov_C (ov_cv e), ov_A (ov_hd e), ov_A (ov_s9 e), ov_A (ov_s3 e), ov_A (ov_s1 e), ov_A (ov_sc e), ov_A (ov_vs e), ov_A (ov_lt e), ov_A (ov_kd e), ov_A (ov_ct e), yq, yr, tk, pa, pq, pv, yt) := ov_mkR hw hq
  unfold wpX_withCost wpY_withCost
  dsimp only
  by_cases h1 : ov_in 0 (ov_nc e) v1
  · by_cases h2 : ov_in 0 4 v2
    · refine ox_ref_0 hw h1 h2 (br_t rfl ?_)
      have h1' := h1
      have h2' := h2
      obtain ⟨node, _, hn, rfl⟩ := h1
      obtain ⟨wanted, _, hwa, rfl⟩ := h2
      obtain ⟨t, hT, tX, tY⟩ := ov_both (wanted := wanted) hw hn
      by_cases h3 : ov_in 0 127 v3
      · refine ov_zt 0 127 h3 ?_
        obtain ⟨a, _, ha, rfl⟩ := h3
        refine ox_survey hw hn (by omega) (fun so' lo' pt' op' ch' ty' hs' bc' bt' hpt hX => ?_)
        rw [tX] at hX
        refine ⟨vp_in_nI ha (by omega), ?_⟩
        refine oy_badNode_t hw h1' (br_t rfl (ov_yt 0 3 h2' (oy_tryAll hw hn (by omega) hq (fun fi' le' be' bo' sa' pa' pq' pv' yt' hpa hY => ?_))))
        rw [tY] at hY
        exact ⟨(hY.2.2.2.1 a ha rfl).trans (by rw [nI_clamp (by omega)]; exact (hX.2.2 a ha).symm), ov_mkR hw hq⟩
      · have hno : ∀ a, a < 127 → ¬ v3 = nI a := fun a ha hv => h3 ⟨a, Nat.zero_le _, ha, hv⟩
        refine ov_zf 0 127 h3 ?_ ?_
        · refine oy_badNode_t hw h1' (br_t rfl (ov_yt 0 3 h2' (oy_tryAll hw hn (by omega) hq (fun fi' le' be' bo' sa' pa' pq' pv' yt' hpa hY => ?_))))
          exact ⟨hY.2.2.2.2 hno, ov_mkR hw hq⟩
        · refine oy_badNode_t hw h1' (br_t rfl (ov_yt 0 3 h2' (oy_tryAll hw hn (by omega) hq (fun fi' le' be' bo' sa' pa' pq' pv' yt' hpa hY => ?_))))
          exact ⟨hY.2.2.2.2 hno, ov_mkR hw hq⟩
    · exact ox_ref_2 hw h1 h2 (br_f (by decide) (oy_badNode_t hw h1 (br_t rfl (ov_yf 0 3 h2 ⟨rfl, R0⟩ ⟨rfl, R0⟩))))
  · exact ox_ref_1 hw h1 (br_f (by decide) (oy_badNode_f hw h1 (br_f ov_10 ⟨rfl, R0⟩)))
end
section
/-! chosen and typeOf -/
theorem ov_bn_1 {e : ov_E} {pb : Nat → Bool} {node wanted n : Nat} {t : ov_T} (hT : ov_TI e pb node wanted n t) (h : ov_bn t = 1) : t.1 ≠ 0 ∧ t.2.1 < 127 ∧ ov_co e pb node wanted t.2.2.1 = some t.2.1 := by
  have h0 : t.1 ≠ 0 := fun z => by
    unfold ov_bn at h
    rw [if_pos z] at h
    omega
  have h4 := hT.2.2.2 h0
  exact ⟨h0, h4.1, h4.2.2.2⟩
theorem ov_bn_lt {e : ov_E} {pb : Nat → Bool} {node wanted : Nat} {t : ov_T} (hT : ov_TI e pb node wanted 268435456 t) : ov_bn t < 2 ^ 31 := by
  have h1 := hT.1
  have h2 := hT.2.1 t.2.1
  unfold ov_bn
  split <;> omega
theorem i_vc_typeOf {k : Nat} {u : SX} {v : SY} (I : i_Rel k u v) (hk : k + 4 ≤ 2048) (v1 : Int32) (v2 : Int32) : wpX_typeOf (fun r u' => wpY_typeOf (fun r' v' => r' = r ∧ i_Rel (k + 4) u' v') v v1 v2) u v1 v2 := by
  obtain ⟨e, tk, pt, op, ch, ty, hs, bc, bt, yq, yr, pa, pq, pv, yt, so, lo, to, fi, le, be, bo, sa, rfl, rfl, hw, hq⟩ := I
  have R0 : i_Rel (k + 4) (nI (ov_nc e), nI (ov_ac e), so, lo, ov_C (ov_cv e), ov_A (ov_st e), ov_A (ov_sc e), ov_A (ov_hd e), ov_A (ov_vs e), ov_A (ov_lt e), ov_A (ov_kd e), ov_A (ov_ct e), ov_A (ov_lf e), ov_A (ov_rt e), tk, pt, op, ch, ty, hs, bc, bt) (nI (ov_nc e), to, fi, le, be, bo, sa, ov_C (ov_cv e), ov_A (ov_hd e), ov_A (ov_s9 e), ov_A (ov_s3 e), ov_A (ov_s1 e), ov_A (ov_sc e), ov_A (ov_vs e), ov_A (ov_lt e), ov_A (ov_kd e), ov_A (ov_ct e), yq, yr, tk, pa, pq, pv, yt) := ov_mkR hw hq
  have h12 := hw.1
  unfold wpX_typeOf wpY_typeOf
  dsimp only
  by_cases h1 : ov_in 0 (ov_nc e) v1
  · by_cases h2 : ov_in 0 4 v2
    · refine ox_ref_0 hw h1 h2 (br_t rfl ?_)
      have h1' := h1
      have h2' := h2
      obtain ⟨node, _, hn, rfl⟩ := h1
      obtain ⟨wanted, _, hwa, rfl⟩ := h2
      obtain ⟨t, hT, tX, tY⟩ := ov_both (wanted := wanted) hw hn
      have hpb : ov_P1 e (ov_pb e node) node := ⟨hn, ov_pb_pi hw hn⟩
      have hbl := ov_bn_lt hT
      have hvn : vp_in (nI node) 12 := vp_in_nI (by omega) (by omega)
      refine ox_survey hw hn (by omega) (fun so' lo' pt' op' ch' ty' hs' bc' bt' hpt hX => ?_)
      rw [tX] at hX
      refine ox_countOfBest (by omega) hT hX (pk_eq (ov_bn t) 1 (fun hb1 => ⟨hvn, ?_⟩) (fun hb1 => ?_))
      · refine oy_badNode_t hw h1' (br_t rfl (ov_yt 0 3 h2' (oy_tryAll hw hn (by omega) hq (fun fi' le' be' bo' sa' pa' pq' pv' yt' hpa hY => ?_))))
        rw [tY] at hY
        obtain ⟨hz, hl127, hco⟩ := ov_bn_1 hT hb1
        obtain ⟨_, _, c, hc, hbo, hbd⟩ := hY.2.2.1 hz
        have hbe := ov_YC_be hY
        rw [hb1] at hbe
        refine br_t hbe ?_
        rw [hbo]
        rw [hbd] at hco
        have hlt : ∀ j, j < 14 → ov_rd (ov_b e (ov_pb e node) ov_4) 14 c ov_z j < ov_b e (ov_pb e node) ov_4 j := fun j hj => ov_rd_lt hc hj
        have hD := ov_D_of hw hpb ov_4_le hlt
        have hG := ov_co_G hw hpb hco
        refine oy_read hw hpb hpa hc (fun pq2 pv2 hpq hpv => ?_)
        refine oy_price hw hpb (by omega) hpa hq hD hG hpq hpv (fun yt2 hyt => ?_)
        rw [(ov_gG_t hw hpb).mpr hG, hco]
        have e1 : yt2 (nI node).toNatClampNeg = bt' (nI node).toNatClampNeg := by
          rw [nI_clamp (by omega), hyt _ hco node hpb.2.2.1, (hX.2.1 hz).2.2 node hpb.2.2.1, hbd]
        exact br_f ov_10 (br_t (nI_pos' (by omega)) ⟨hvn, e1, ov_mkR hw hq⟩)
      · refine oy_badNode_t hw h1' (br_t rfl (ov_yt 0 3 h2' (oy_tryAll hw hn (by omega) hq (fun fi' le' be' bo' sa' pa' pq' pv' yt' hpa hY => ?_))))
        rw [tY] at hY
        exact pk_eq (ov_bn t) 1 (fun z => absurd z hb1) (fun _ => ⟨rfl, ov_mkR hw hq⟩) (ov_YC_be hY) rfl (by omega) (by omega)
    · exact ox_ref_2 hw h1 h2 (br_f (by decide) (oy_badNode_t hw h1 (br_t rfl (ov_yf 0 3 h2 ⟨rfl, R0⟩ ⟨rfl, R0⟩))))
  · exact ox_ref_1 hw h1 (br_f (by decide) (oy_badNode_f hw h1 (br_f ov_10 ⟨rfl, R0⟩)))
theorem i_vc_chosen {k : Nat} {u : SX} {v : SY} (I : i_Rel k u v) (hk : k + 4 ≤ 2048) (v1 : Int32) (v2 : Int32) (v3 : Int32) : wpX_chosen (fun r u' => wpY_chosen (fun r' v' => r' = r ∧ i_Rel (k + 4) u' v') v v1 v2 v3) u v1 v2 v3 := by
  obtain ⟨e, tk, pt, op, ch, ty, hs, bc, bt, yq, yr, pa, pq, pv, yt, so, lo, to, fi, le, be, bo, sa, rfl, rfl, hw, hq⟩ := I
  have R0 : i_Rel (k + 4) (nI (ov_nc e), nI (ov_ac e), so, lo, ov_C (ov_cv e), ov_A (ov_st e), ov_A (ov_sc e), ov_A (ov_hd e), ov_A (ov_vs e), ov_A (ov_lt e), ov_A (ov_kd e), ov_A (ov_ct e), ov_A (ov_lf e), ov_A (ov_rt e), tk, pt, op, ch, ty, hs, bc, bt) (nI (ov_nc e), to, fi, le, be, bo, sa, ov_C (ov_cv e), ov_A (ov_hd e), ov_A (ov_s9 e), ov_A (ov_s3 e), ov_A (ov_s1 e), ov_A (ov_sc e), ov_A (ov_vs e), ov_A (ov_lt e), ov_A (ov_kd e), ov_A (ov_ct e), yq, yr, tk, pa, pq, pv, yt) := ov_mkR hw hq
  have h12 := hw.1
  unfold wpX_chosen wpY_chosen
  dsimp only
  by_cases h1 : ov_in 0 (ov_nc e) v1
  · by_cases h2 : ov_in 0 4 v2
    · refine ox_ref_0 hw h1 h2 (br_t rfl ?_)
      have h1' := h1
      have h2' := h2
      obtain ⟨node, _, hn, rfl⟩ := h1
      obtain ⟨wanted, _, hwa, rfl⟩ := h2
      obtain ⟨t, hT, tX, tY⟩ := ov_both (wanted := wanted) hw hn
      have hpb : ov_P1 e (ov_pb e node) node := ⟨hn, ov_pb_pi hw hn⟩
      have hbl := ov_bn_lt hT
      refine ox_survey hw hn (by omega) (fun so' lo' pt' op' ch' ty' hs' bc' bt' hpt hX => ?_)
      rw [tX] at hX
      by_cases h3 : ov_in 0 (ov_nc e) v3
      · refine ox_isNode_t hw h3 (br_f ov_10 ?_)
        have h3' := h3
        obtain ⟨p, _, hp, rfl⟩ := h3
        have hvp : vp_in (nI p) 12 := vp_in_nI (by omega) (by omega)
        have hN := hw.2.2.2.2.2.2.2.2.1 p hp
        have hk3 := hN.1
        refine ⟨hvp, ov_pc (b := ov_pb e node p) (by rw [nI_clamp (by omega)]; exact hpt p (by omega)) (fun hb => ?_) (fun hb => ?_)⟩
        · refine oy_badNode_t hw h1' (br_t rfl (ov_yt 0 3 h2' (oy_mark hw hn hq (fun s hs1 => ?_))))
          refine oy_badNode_t hw h3' (br_t rfl ⟨hvp, ov_pc (b := ov_pb e node p) (by rw [nI_clamp (by omega)]; exact hs1 p (by omega)) (fun _ => ⟨rfl, ov_mkR hw hq⟩) (fun z => by rw [hb] at z; exact absurd z Bool.false_ne_true)⟩)
        · refine ox_countOfBest (by omega) hT hX (pk_eq (ov_bn t) 1 (fun hb1 => ?_) (fun hb1 => ?_))
          · obtain ⟨hz, hl127, hco⟩ := ov_bn_1 hT hb1
            refine ⟨hvp, pk_eq (ov_kd e p) 3 (fun h33 => ?_) (fun h33 => ?_) (ov_AV (by omega)) rfl (by omega) (by omega)⟩
            · refine ⟨hvp, ?_⟩
              refine oy_badNode_t hw h1' (br_t rfl (ov_yt 0 3 h2' (oy_mark hw hn hq (fun s hs1 => ?_))))
              refine oy_badNode_t hw h3' (br_t rfl ⟨hvp, ov_pc (b := ov_pb e node p) (by rw [nI_clamp (by omega)]; exact hs1 p (by omega)) (fun z => by rw [hb] at z; exact absurd z.symm Bool.false_ne_true) (fun _ => ?_)⟩)
              refine oy_tryAll hw hn (by omega) hq (fun fi' le' be' bo' sa' pa' pq' pv' yt' hpa hY => ?_)
              rw [tY] at hY
              obtain ⟨_, _, c, hc, hbo, hbd⟩ := hY.2.2.1 hz
              have hbe := ov_YC_be hY
              rw [hb1] at hbe
              refine br_t hbe ?_
              rw [hbo]
              rw [hbd] at hco
              have hlt : ∀ j, j < 14 → ov_rd (ov_b e (ov_pb e node) ov_4) 14 c ov_z j < ov_b e (ov_pb e node) ov_4 j := fun j hj => ov_rd_lt hc hj
              have hD := ov_D_of hw hpb ov_4_le hlt
              have hG := ov_co_G hw hpb hco
              refine oy_read hw hpb hpa hc (fun pq2 pv2 hpq hpv => ?_)
              refine oy_price hw hpb (by omega) hpa hq hD hG hpq hpv (fun yt2 hyt => ?_)
              rw [(ov_gG_t hw hpb).mpr hG, hco]
              have e1 : pq2 (nI p).toNatClampNeg = bc' (nI p).toNatClampNeg := by
                rw [nI_clamp (by omega), hpq p hp, (hX.2.1 hz).2.1 p (by omega), hbd]
              exact br_f ov_10 (br_t (nI_pos' (by omega)) ⟨hvp, pk_eq (ov_kd e p) 3 (fun _ => ⟨hvp, e1, ov_mkR hw hq⟩) (fun z => absurd h33 z) (ov_AV (by omega)) rfl (by omega) (by omega)⟩)
            · refine ⟨hvp, ?_⟩
              refine oy_badNode_t hw h1' (br_t rfl (ov_yt 0 3 h2' (oy_mark hw hn hq (fun s hs1 => ?_))))
              refine oy_badNode_t hw h3' (br_t rfl ⟨hvp, ov_pc (b := ov_pb e node p) (by rw [nI_clamp (by omega)]; exact hs1 p (by omega)) (fun z => by rw [hb] at z; exact absurd z.symm Bool.false_ne_true) (fun _ => ?_)⟩)
              refine oy_tryAll hw hn (by omega) hq (fun fi' le' be' bo' sa' pa' pq' pv' yt' hpa hY => ?_)
              rw [tY] at hY
              obtain ⟨_, _, c, hc, hbo, hbd⟩ := hY.2.2.1 hz
              have hbe := ov_YC_be hY
              rw [hb1] at hbe
              refine br_t hbe ?_
              rw [hbo]
              rw [hbd] at hco
              have hlt : ∀ j, j < 14 → ov_rd (ov_b e (ov_pb e node) ov_4) 14 c ov_z j < ov_b e (ov_pb e node) ov_4 j := fun j hj => ov_rd_lt hc hj
              have hD := ov_D_of hw hpb ov_4_le hlt
              have hG := ov_co_G hw hpb hco
              refine oy_read hw hpb hpa hc (fun pq2 pv2 hpq hpv => ?_)
              refine oy_price hw hpb (by omega) hpa hq hD hG hpq hpv (fun yt2 hyt => ?_)
              rw [(ov_gG_t hw hpb).mpr hG, hco]
              have e1 : yt2 (nI p).toNatClampNeg = bt' (nI p).toNatClampNeg := by
                rw [nI_clamp (by omega), hyt _ hco p hb, (hX.2.1 hz).2.2 p hb, hbd]
              exact br_f ov_10 (br_t (nI_pos' (by omega)) ⟨hvp, pk_eq (ov_kd e p) 3 (fun z => absurd z h33) (fun _ => ⟨hvp, e1, ov_mkR hw hq⟩) (ov_AV (by omega)) rfl (by omega) (by omega)⟩)
          · refine oy_badNode_t hw h1' (br_t rfl (ov_yt 0 3 h2' (oy_mark hw hn hq (fun s hs1 => ?_))))
            refine oy_badNode_t hw h3' (br_t rfl ⟨hvp, ov_pc (b := ov_pb e node p) (by rw [nI_clamp (by omega)]; exact hs1 p (by omega)) (fun z => by rw [hb] at z; exact absurd z.symm Bool.false_ne_true) (fun _ => ?_)⟩)
            refine oy_tryAll hw hn (by omega) hq (fun fi' le' be' bo' sa' pa' pq' pv' yt' hpa hY => ?_)
            rw [tY] at hY
            exact pk_eq (ov_bn t) 1 (fun z => absurd z hb1) (fun _ => ⟨rfl, ov_mkR hw hq⟩) (ov_YC_be hY) rfl (by omega) (by omega)
      · refine ox_isNode_f hw h3 (br_t rfl ?_)
        refine oy_badNode_t hw h1' (br_t rfl (ov_yt 0 3 h2' (oy_mark hw hn hq (fun s hs1 => ?_))))
        exact oy_badNode_f hw h3 (br_f ov_10 ⟨rfl, ov_mkR hw hq⟩)
    · exact ox_ref_2 hw h1 h2 (br_f (by decide) (oy_badNode_t hw h1 (br_t rfl (ov_yf 0 3 h2 ⟨rfl, R0⟩ ⟨rfl, R0⟩))))
  · exact ox_ref_1 hw h1 (br_f (by decide) (oy_badNode_f hw h1 (br_f ov_10 ⟨rfl, R0⟩)))
end
