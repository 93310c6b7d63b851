def ov_bit (s t : Nat) : Bool := decide (s / 2 ^ t % 2 = 1)
def ov_ty (e : ov_E) (d : Nat → Nat) (n : Nat) : Nat :=
  if ov_kd e n = 0 then d n else if ov_kd e n = 1 then d (12 + ov_ct e n) else if ov_kd e n = 2 then ov_ct e n else ov_st e (4 * ov_ct e n + d n) % 3
/-- the sum of what may be wanting -/
def ov_pl (a b : Option Nat) : Option Nat := match a, b with
  | some x, some y => some (x + y)
  | _, _ => none
def ov_ca (e : ov_E) (i tl tr : Nat) : Option Nat := ov_pl (ov_pl (some (ov_sc e i)) (ov_cv e (3 * tl + ov_st e i / 9))) (ov_cv e (3 * tr + ov_st e i / 3 % 3))
def ov_cp (e : ov_E) (d : Nat → Nat) (n : Nat) : Option Nat :=
  if ov_kd e n = 0 then (if ov_bit (ov_ct e n) (d n) = true then some (ov_lt e (d n)) else none)
  else if ov_kd e n = 1 then (if ov_bit (ov_vs e (ov_ct e n)) (d (12 + ov_ct e n)) = true then some 0 else none)
  else if ov_kd e n = 2 then some 0
  else if d n < ov_hd e (ov_ct e n) then ov_ca e (4 * ov_ct e n + d n) (ov_ty e d (ov_lf e n)) (ov_ty e d (ov_rt e n)) else none
def ov_sm (e : ov_E) (pb : Nat → Bool) (d : Nat → Nat) : Nat → Option Nat
  | 0 => some 0
  | k + 1 => if pb k = true then ov_pl (ov_sm e pb d k) (ov_cp e d k) else ov_sm e pb d k
def ov_co (e : ov_E) (pb : Nat → Bool) (node wanted : Nat) (d : Nat → Nat) : Option Nat :=
  if wanted = 3 then ov_sm e pb d (node + 1) else ov_pl (ov_sm e pb d (node + 1)) (ov_cv e (3 * ov_ty e d node + wanted))
theorem ov_pl_n {a : Option Nat} : ov_pl a none = none := by cases a <;> rfl
theorem ov_pl_n' {a : Option Nat} : ov_pl none a = none := by cases a <;> rfl
theorem ov_pl_s {a b : Option Nat} {c : Nat} (h : ov_pl a b = some c) : ∃ x y, a = some x ∧ b = some y ∧ c = x + y := by
  cases a with
  | none => rw [ov_pl_n'] at h; cases h
  | some x => cases b with
    | none => rw [ov_pl_n] at h; cases h
    | some y => exact ⟨x, y, rfl, rfl, (Option.some.inj h).symm⟩
theorem ov_ca_le {e : ov_E} (hw : ov_W e) {i tl tr c : Nat} (h : ov_ca e i tl tr = some c) : c ≤ 27 := by
  obtain ⟨x, y, h1, h2, rfl⟩ := ov_pl_s h
  obtain ⟨x', y', h3, h4, rfl⟩ := ov_pl_s h1
  have a1 := hw.2.1 _ _ h2
  have a2 := hw.2.1 _ _ h4
  have a3 := hw.2.2.2.1 i
  have a4 := Option.some.inj h3
  omega
theorem ov_cp_le {e : ov_E} (hw : ov_W e) {d : Nat → Nat} {n c : Nat} (hk : ov_kd e n ≤ 3) (h : ov_cp e d n = some c) : c ≤ 9 + (if ov_kd e n = 3 then 18 else 0) := by
  unfold ov_cp at h
  by_cases h0 : ov_kd e n = 0
  · rw [if_pos h0] at h
    by_cases hb : ov_bit (ov_ct e n) (d n) = true
    · rw [if_pos hb] at h
      have := hw.2.2.2.2.2.2.1 (d n)
      have := Option.some.inj h
      omega
    · rw [if_neg hb] at h; cases h
  · rw [if_neg h0] at h
    by_cases h1 : ov_kd e n = 1
    · rw [if_pos h1] at h
      by_cases hb : ov_bit (ov_vs e (ov_ct e n)) (d (12 + ov_ct e n)) = true
      · rw [if_pos hb] at h
        have := Option.some.inj h
        omega
      · rw [if_neg hb] at h; cases h
    · rw [if_neg h1] at h
      by_cases h2 : ov_kd e n = 2
      · rw [if_pos h2] at h
        have := Option.some.inj h
        omega
      · rw [if_neg h2] at h
        by_cases hb : d n < ov_hd e (ov_ct e n)
        · rw [if_pos hb] at h
          rw [if_pos (by omega)]
          exact ov_ca_le hw h
        · rw [if_neg hb] at h; cases h
def ov_P1 (e : ov_E) (pb : Nat → Bool) (node : Nat) : Prop := node < ov_nc e ∧ ov_pi e node 0 pb
theorem ov_sm_le {e : ov_E} (hw : ov_W e) {pb : Nat → Bool} {node : Nat} (hp : ov_P1 e pb node) {d : Nat → Nat} : ∀ k s, ov_sm e pb d k = some s → s ≤ 9 * ov_cn pb k + 18 * ov_cn (ov_pa e pb 0) k := by
  intro k
  induction k with
  | zero => intro s h; have := Option.some.inj h; omega
  | succ k ih =>
    intro s h
    show s ≤ 9 * (ov_cn pb k + (if pb k = true then 1 else 0)) + 18 * (ov_cn (ov_pa e pb 0) k + (if ov_pa e pb 0 k = true then 1 else 0))
    have h' : (if pb k = true then ov_pl (ov_sm e pb d k) (ov_cp e d k) else ov_sm e pb d k) = some s := h
    by_cases hk : pb k = true
    · rw [if_pos hk] at h'
      obtain ⟨x, y, h1, h2, rfl⟩ := ov_pl_s h'
      have a1 := ih x h1
      have a0 := hp.2.1 k hk
      have a00 := hp.1
      have a2 := ov_cp_le hw (hw.2.2.2.2.2.2.2.2.1 k (by omega)).1 h2
      rw [if_pos hk]
      by_cases h3 : ov_kd e k = 3
      · rw [if_pos h3] at a2
        rw [if_pos (show ov_pa e pb 0 k = true by unfold ov_pa; rw [hk, decide_eq_true (Nat.zero_le k), decide_eq_true h3]; rfl)]
        omega
      · rw [if_neg h3] at a2
        omega
    · rw [if_neg hk] at h'
      have a1 := ih s h'
      omega
theorem ov_pa_3 {e : ov_E} (hw : ov_W e) {pb : Nat → Bool} {node : Nat} (hp : ov_P1 e pb node) : ov_cn (ov_pa e pb 0) 12 ≤ 3 := by
  have h12 := hw.1
  have h1 : ov_cn (ov_pa e pb 0) (ov_nc e + (12 - ov_nc e)) = ov_cn (ov_pa e pb 0) (ov_nc e) := ov_cn_0 _ (fun j hj => by
    by_cases h : pb j = true
    · have := hp.2.1 j h; have := hp.1; omega
    · unfold ov_pa; rw [Bool.eq_false_iff.mpr h, Bool.false_and, Bool.false_and])
  rw [show ov_nc e + (12 - ov_nc e) = 12 by omega] at h1
  have h2 := ov_cn_le (p := ov_pa e pb 0) (q := ov_ap e) (ov_nc e) (fun j _ hj => by
    unfold ov_pa at hj
    rw [Bool.and_eq_true] at hj
    exact hj.2)
  have h3 : ov_cn (ov_ap e) (ov_nc e) ≤ 3 := hw.2.2.2.2.2.2.2.2.2
  omega
theorem ov_co_le {e : ov_E} (hw : ov_W e) {pb : Nat → Bool} {node : Nat} (hp : ov_P1 e pb node) {wanted : Nat} {d : Nat → Nat} {c : Nat} (h : ov_co e pb node wanted d = some c) : c < 127 := by
  have h12 := hw.1
  have hn := hp.1
  have key : ∀ s, ov_sm e pb d (node + 1) = some s → s ≤ 117 := fun s hs => by
    have a1 := ov_sm_le hw hp (d := d) _ s hs
    have a2 := ov_pa_3 hw hp
    have a3 := hp.2.2.2.2
    have a4 := ov_cn_mono (p := pb) (m := node + 1) (12 - (node + 1))
    have a5 := ov_cn_mono (p := ov_pa e pb 0) (m := node + 1) (12 - (node + 1))
    rw [show node + 1 + (12 - (node + 1)) = 12 by omega] at a4 a5
    omega
  unfold ov_co at h
  by_cases h3 : wanted = 3
  · rw [if_pos h3] at h
    have := key c h
    omega
  · rw [if_neg h3] at h
    obtain ⟨x, y, h1, h2, rfl⟩ := ov_pl_s h
    have := key x h1
    have := hw.2.1 _ _ h2
    omega
/-! what must hold of the choices of all parts, and the bases of the counter -/
def ov_g1 (e : ov_E) (d : Nat → Nat) (n : Nat) : Bool := if ov_kd e n = 0 then ov_bit (ov_ct e n) (d n) else if ov_kd e n = 3 then decide (d n < ov_hd e (ov_ct e n)) else true
def ov_G (e : ov_E) (pb : Nat → Bool) (d : Nat → Nat) : Prop := ∀ n, pb n = true → ov_g1 e d n = true ∧ (ov_kd e n = 1 → ov_bit (ov_vs e (ov_ct e n)) (d (12 + ov_ct e n)) = true)
theorem ov_cp_g {e : ov_E} {d : Nat → Nat} {n c : Nat} (hk : ov_kd e n ≤ 3) (h : ov_cp e d n = some c) : ov_g1 e d n = true ∧ (ov_kd e n = 1 → ov_bit (ov_vs e (ov_ct e n)) (d (12 + ov_ct e n)) = true) := by
  unfold ov_cp at h
  unfold ov_g1
  by_cases h0 : ov_kd e n = 0
  · rw [if_pos h0] at h ⊢
    refine ⟨?_, fun h1 => by omega⟩
    by_cases hb : ov_bit (ov_ct e n) (d n) = true
    · exact hb
    · rw [if_neg hb] at h; cases h
  · rw [if_neg h0] at h ⊢
    by_cases h1 : ov_kd e n = 1
    · rw [if_pos h1] at h
      rw [if_neg (by omega)]
      refine ⟨rfl, fun _ => ?_⟩
      by_cases hb : ov_bit (ov_vs e (ov_ct e n)) (d (12 + ov_ct e n)) = true
      · exact hb
      · rw [if_neg hb] at h; cases h
    · rw [if_neg h1] at h
      refine ⟨?_, fun h2 => absurd h2 h1⟩
      by_cases h2 : ov_kd e n = 2
      · rw [if_neg (by omega)]
      · rw [if_neg h2] at h
        rw [if_pos (by omega)]
        by_cases hb : d n < ov_hd e (ov_ct e n)
        · exact decide_eq_true hb
        · rw [if_neg hb] at h; cases h
theorem ov_sm_p {e : ov_E} {pb : Nat → Bool} {d : Nat → Nat} : ∀ k s, ov_sm e pb d k = some s → ∀ n, n < k → pb n = true → ∃ c, ov_cp e d n = some c := by
  intro k
  induction k with
  | zero => intro s _ n hn; omega
  | succ k ih =>
    intro s h n hn hb
    have h' : (if pb k = true then ov_pl (ov_sm e pb d k) (ov_cp e d k) else ov_sm e pb d k) = some s := h
    by_cases hk : pb k = true
    · rw [if_pos hk] at h'
      obtain ⟨x, y, h1, h2, _⟩ := ov_pl_s h'
      by_cases hnk : n = k
      · subst hnk; exact ⟨y, h2⟩
      · exact ih x h1 n (by omega) hb
    · rw [if_neg hk] at h'
      by_cases hnk : n = k
      · subst hnk; exact absurd hb hk
      · exact ih s h' n (by omega) hb
theorem ov_co_sm {e : ov_E} {pb : Nat → Bool} {node wanted c : Nat} {d : Nat → Nat} (h : ov_co e pb node wanted d = some c) : ∃ s, ov_sm e pb d (node + 1) = some s := by
  unfold ov_co at h
  by_cases h3 : wanted = 3
  · rw [if_pos h3] at h; exact ⟨c, h⟩
  · rw [if_neg h3] at h
    obtain ⟨x, y, h1, _, _⟩ := ov_pl_s h
    exact ⟨x, h1⟩
theorem ov_co_G {e : ov_E} (hw : ov_W e) {pb : Nat → Bool} {node : Nat} (hp : ov_P1 e pb node) {wanted c : Nat} {d : Nat → Nat} (h : ov_co e pb node wanted d = some c) : ov_G e pb d := by
  obtain ⟨s, hs⟩ := ov_co_sm h
  intro n hn
  have h1 := hp.2.1 n hn
  have h2 := hp.1
  obtain ⟨c', hc⟩ := ov_sm_p _ _ hs n (by omega) hn
  exact ov_cp_g (hw.2.2.2.2.2.2.2.2.1 n (by omega)).1 hc
def ov_nm (e : ov_E) (pb : Nat → Bool) (v : Nat) : Nat → Bool
  | 0 => false
  | k + 1 => ov_nm e pb v k || (pb k && decide (ov_kd e k = 1) && decide (ov_ct e k = v))
def ov_b (e : ov_E) (pb : Nat → Bool) (a : Nat → Nat) (j : Nat) : Nat :=
  if j < 12 then (if pb j = true then (if ov_kd e j = 0 then 3 else if ov_kd e j = 3 then a j else 1) else 1) else if ov_nm e pb (j - 12) 12 = true then 3 else 1
def ov_hc (e : ov_E) : Nat → Nat := fun j => ov_hd e (ov_ct e j)
def ov_4 : Nat → Nat := fun _ => 4
theorem ov_nm_of {e : ov_E} {pb : Nat → Bool} {n : Nat} (hb : pb n = true) (hk : ov_kd e n = 1) : ∀ k, n < k → ov_nm e pb (ov_ct e n) k = true := by
  intro k
  induction k with
  | zero => intro h; omega
  | succ k ih =>
    intro h
    show (ov_nm e pb (ov_ct e n) k || (pb k && decide (ov_kd e k = 1) && decide (ov_ct e k = ov_ct e n))) = true
    by_cases hn : n = k
    · subst hn
      rw [hb, decide_eq_true hk, decide_eq_true rfl]
      exact Bool.or_true _
    · rw [ih (by omega)]; exact Bool.true_or _
theorem ov_nm_ex {e : ov_E} {pb : Nat → Bool} {v : Nat} : ∀ k, ov_nm e pb v k = true → ∃ n, n < k ∧ pb n = true ∧ ov_kd e n = 1 ∧ ov_ct e n = v := by
  intro k
  induction k with
  | zero => intro h; cases h
  | succ k ih =>
    intro h
    have h' : (ov_nm e pb v k || (pb k && decide (ov_kd e k = 1) && decide (ov_ct e k = v))) = true := h
    rw [Bool.or_eq_true, Bool.and_eq_true, Bool.and_eq_true] at h'
    rcases h' with h' | h'
    · obtain ⟨n, h1, h2⟩ := ih h'
      exact ⟨n, by omega, h2⟩
    · exact ⟨k, by omega, h'.1.1, of_decide_eq_true h'.1.2, of_decide_eq_true h'.2⟩
theorem ov_nm_hi {e : ov_E} {pb : Nat → Bool} {v m : Nat} (h : ∀ j, m ≤ j → pb j = false) : ∀ r, ov_nm e pb v (m + r) = ov_nm e pb v m := by
  intro r
  induction r with
  | zero => rfl
  | succ r ih =>
    show (ov_nm e pb v (m + r) || (pb (m + r) && decide (ov_kd e (m + r) = 1) && decide (ov_ct e (m + r) = v))) = _
    rw [ih, h _ (by omega), Bool.false_and, Bool.false_and, Bool.or_false]
theorem ov_pb_f {e : ov_E} {pb : Nat → Bool} {node : Nat} (hp : ov_P1 e pb node) {j : Nat} (h : ov_nc e ≤ j) : pb j = false := by
  by_cases hb : pb j = true
  · have := hp.2.1 j hb; have := hp.1; omega
  · exact Bool.eq_false_iff.mpr hb
theorem ov_nm_nc {e : ov_E} (hw : ov_W e) {pb : Nat → Bool} {node : Nat} (hp : ov_P1 e pb node) (v : Nat) : ov_nm e pb v (ov_nc e) = ov_nm e pb v 12 := by
  have h := ov_nm_hi (e := e) (pb := pb) (v := v) (m := ov_nc e) (fun j hj => ov_pb_f hp hj) (12 - ov_nc e)
  rw [show ov_nc e + (12 - ov_nc e) = 12 by have := hw.1; omega] at h
  exact h.symm
theorem ov_b_le {e : ov_E} {pb : Nat → Bool} {a : Nat → Nat} (h : ∀ j, a j ≤ 4) (j : Nat) : ov_b e pb a j ≤ 4 := by
  unfold ov_b
  have := h j
  repeat' split
  all_goals omega
theorem ov_hc_le {e : ov_E} (hw : ov_W e) (j : Nat) : ov_hc e j ≤ 4 := hw.2.2.2.2.1 _
theorem ov_4_le (j : Nat) : ov_4 j ≤ 4 := Nat.le_refl 4
theorem ov_b_XY {e : ov_E} (hw : ov_W e) {pb : Nat → Bool} (j : Nat) : ov_b e pb (ov_hc e) j ≤ ov_b e pb ov_4 j := by
  have := ov_hc_le hw j
  have h4 : ov_4 j = 4 := rfl
  unfold ov_b
  repeat' split
  all_goals omega
theorem ov_b_app {e : ov_E} {pb : Nat → Bool} {j : Nat} (h : ov_b e pb (ov_hc e) j < ov_b e pb ov_4 j) : j < 12 ∧ pb j = true ∧ ov_kd e j = 3 := by
  unfold ov_b at h
  by_cases h1 : j < 12
  · rw [if_pos h1, if_pos h1] at h
    by_cases h2 : pb j = true
    · rw [if_pos h2, if_pos h2] at h
      by_cases h3 : ov_kd e j = 0
      · rw [if_pos h3, if_pos h3] at h; omega
      · rw [if_neg h3, if_neg h3] at h
        by_cases h4 : ov_kd e j = 3
        · exact ⟨h1, h2, h4⟩
        · rw [if_neg h4, if_neg h4] at h; omega
    · rw [if_neg h2, if_neg h2] at h; omega
  · rw [if_neg h1, if_neg h1] at h; omega
theorem ov_b_0 {e : ov_E} {pb : Nat → Bool} {a : Nat → Nat} {n : Nat} (h : n < 12) (hb : pb n = true) (hk : ov_kd e n = 0) : ov_b e pb a n = 3 := by
  unfold ov_b; rw [if_pos h, if_pos hb, if_pos hk]
theorem ov_b_3 {e : ov_E} {pb : Nat → Bool} {a : Nat → Nat} {n : Nat} (h : n < 12) (hb : pb n = true) (hk : ov_kd e n = 3) : ov_b e pb a n = a n := by
  unfold ov_b; rw [if_pos h, if_pos hb, if_neg (by omega), if_pos hk]
theorem ov_b_1 {e : ov_E} {pb : Nat → Bool} {a : Nat → Nat} {n : Nat} (h : n < 12) (hc : pb n = true → ov_kd e n = 1 ∨ ov_kd e n = 2) : ov_b e pb a n = 1 := by
  unfold ov_b; rw [if_pos h]
  by_cases hb : pb n = true
  · have := hc hb
    rw [if_pos hb, if_neg (by omega), if_neg (by omega)]
  · rw [if_neg hb]
theorem ov_b_v {e : ov_E} {pb : Nat → Bool} {a : Nat → Nat} {v : Nat} : ov_b e pb a (12 + v) = if ov_nm e pb v 12 = true then 3 else 1 := by
  unfold ov_b; rw [if_neg (by omega), show 12 + v - 12 = v by omega]
/-- the ranges of digits -/
def ov_D (e : ov_E) (pb : Nat → Bool) (d : Nat → Nat) : Prop := ∀ n, pb n = true → (ov_kd e n = 0 → d n < 3) ∧ (ov_kd e n = 1 → d (12 + ov_ct e n) < 3) ∧ (ov_kd e n = 3 → d n < 4)
theorem ov_D_of {e : ov_E} (hw : ov_W e) {pb : Nat → Bool} {node : Nat} (hp : ov_P1 e pb node) {a : Nat → Nat} (ha : ∀ j, a j ≤ 4) {d : Nat → Nat} (h : ∀ j, j < 14 → d j < ov_b e pb a j) : ov_D e pb d := by
  intro n hn
  have h1 := hp.2.1 n hn
  have h2 := hp.1
  have h3 := hw.1
  have hN := hw.2.2.2.2.2.2.2.2.1 n (by omega)
  refine ⟨fun hk => ?_, fun hk => ?_, fun hk => ?_⟩
  · have := h n (by omega)
    rw [ov_b_0 (by omega) hn hk] at this; exact this
  · have := h (12 + ov_ct e n) (by have := hN.2.1 hk; omega)
    rw [ov_b_v, if_pos (ov_nm_of hn hk 12 (by omega))] at this; exact this
  · have := h n (by omega)
    rw [ov_b_3 (by omega) hn hk] at this
    have := ha n; omega
theorem ov_ty_3 {e : ov_E} (hw : ov_W e) {pb : Nat → Bool} {node : Nat} (hp : ov_P1 e pb node) {d : Nat → Nat} (hd : ov_D e pb d) {n : Nat} (hn : pb n = true) : ov_ty e d n < 3 := by
  have h1 := hp.2.1 n hn
  have h2 := hp.1
  have hN := hw.2.2.2.2.2.2.2.2.1 n (by omega)
  have h3 := hd n hn
  unfold ov_ty
  by_cases k0 : ov_kd e n = 0
  · rw [if_pos k0]; exact h3.1 k0
  · rw [if_neg k0]
    by_cases k1 : ov_kd e n = 1
    · rw [if_pos k1]; exact h3.2.1 k1
    · rw [if_neg k1]
      by_cases k2 : ov_kd e n = 2
      · rw [if_pos k2]; exact hN.2.2.1 k2
      · rw [if_neg k2]; omega
/-! one way's entry -/
abbrev ov_T : Type := Nat × Nat × (Nat → Nat) × (Nat → Nat)
def ov_en (e : ov_E) (pb : Nat → Bool) (node wanted : Nat) (d : Nat → Nat) (t : ov_T) : ov_T := match ov_co e pb node wanted d with
  | none => t
  | some c => (t.1 + 1, if t.1 = 0 ∨ c < t.2.1 then c else t.2.1, if t.1 = 0 ∨ c < t.2.1 then d else t.2.2.1, ov_u t.2.2.2 c (t.2.2.2 c + 1))
theorem ov_en_n {e : ov_E} {pb : Nat → Bool} {node wanted : Nat} {d : Nat → Nat} (h : ov_co e pb node wanted d = none) (t : ov_T) : ov_en e pb node wanted d t = t := by
  unfold ov_en; rw [h]
theorem ov_en_s {e : ov_E} {pb : Nat → Bool} {node wanted c : Nat} {d : Nat → Nat} (h : ov_co e pb node wanted d = some c) (t : ov_T) : ov_en e pb node wanted d t = (t.1 + 1, if t.1 = 0 ∨ c < t.2.1 then c else t.2.1, if t.1 = 0 ∨ c < t.2.1 then d else t.2.2.1, ov_u t.2.2.2 c (t.2.2.2 c + 1)) := by
  unfold ov_en; rw [h]
def ov_TI (e : ov_E) (pb : Nat → Bool) (node wanted : Nat) (n : Nat) (t : ov_T) : Prop := t.1 ≤ n ∧ (∀ c, t.2.2.2 c ≤ t.1) ∧ (t.1 = 0 → ∀ c, t.2.2.2 c = 0) ∧ (t.1 ≠ 0 → t.2.1 < 127 ∧ 1 ≤ t.2.2.2 t.2.1 ∧ (∀ c, c < t.2.1 → t.2.2.2 c = 0) ∧ ov_co e pb node wanted t.2.2.1 = some t.2.1)
theorem ov_TI_s {e : ov_E} (hw : ov_W e) {pb : Nat → Bool} {node wanted : Nat} (hp : ov_P1 e pb node) {n : Nat} {t : ov_T} {d : Nat → Nat} (h : ov_TI e pb node wanted n t) : ov_TI e pb node wanted (n + 1) (ov_en e pb node wanted d t) := by
  obtain ⟨sz, lw, bd, hh⟩ := t
  obtain ⟨h1, h2, h3, h4⟩ := h
  dsimp only at h1 h2 h3 h4
  cases hc : ov_co e pb node wanted d with
  | none =>
    rw [ov_en_n hc]
    exact ⟨by dsimp only; omega, h2, h3, h4⟩
  | some c =>
    rw [ov_en_s hc]
    have hc127 := ov_co_le hw hp hc
    dsimp only
    refine ⟨by dsimp only; omega, fun x => ?_, fun z => by dsimp only at z; omega, fun _ => ?_⟩
    · dsimp only
      by_cases hx : x = c
      · subst hx; rw [ov_us]; have := h2 x; omega
      · rw [ov_un hx]; have := h2 x; omega
    · dsimp only
      by_cases hl : sz = 0 ∨ c < lw
      · rw [if_pos hl, if_pos hl]
        refine ⟨hc127, by rw [ov_us]; omega, fun x hx => ?_, hc⟩
        rw [ov_un (by omega)]
        by_cases hz : sz = 0
        · exact h3 hz x
        · have := h4 hz
          exact this.2.2.1 x (by omega)
      · rw [if_neg hl, if_neg hl]
        have hz : sz ≠ 0 := fun z => hl (Or.inl z)
        obtain ⟨a1, a2, a3, a4⟩ := h4 hz
        refine ⟨a1, ?_, fun x hx => ?_, a4⟩
        · by_cases hx : lw = c
          · subst hx; rw [ov_us]; omega
          · rw [ov_un hx]; exact a2
        · rw [ov_un (by omega)]; exact a3 x hx
def ov_z : Nat → Nat := fun _ => 0
def ov_t0 : ov_T := (0, 0, ov_z, ov_z)
def ov_rn (e : ov_E) (pb : Nat → Bool) (node wanted : Nat) (b : Nat → Nat) (n : Nat) : ov_T := ov_fo (fun w => ov_en e pb node wanted (ov_rd b 14 w ov_z)) n ov_t0
theorem ov_rn_s (e : ov_E) (pb : Nat → Bool) (node wanted : Nat) (b : Nat → Nat) (n : Nat) : ov_rn e pb node wanted b (n + 1) = ov_en e pb node wanted (ov_rd b 14 n ov_z) (ov_rn e pb node wanted b n) := rfl
theorem ov_rn_TI {e : ov_E} (hw : ov_W e) {pb : Nat → Bool} {node wanted : Nat} (hp : ov_P1 e pb node) (b : Nat → Nat) : ∀ n, ov_TI e pb node wanted n (ov_rn e pb node wanted b n) := by
  intro n
  induction n with
  | zero => exact ⟨Nat.le_refl _, fun _ => Nat.le_refl _, fun _ _ => rfl, fun h => absurd rfl h⟩
  | succ n ih => rw [ov_rn_s]; exact ov_TI_s hw hp ih
theorem ov_rn_XY {e : ov_E} (hw : ov_W e) {pb : Nat → Bool} {node : Nat} (hp : ov_P1 e pb node) (wanted : Nat) : ov_rn e pb node wanted (ov_b e pb (ov_hc e)) (ov_P (ov_b e pb (ov_hc e)) 14) = ov_rn e pb node wanted (ov_b e pb ov_4) (ov_P (ov_b e pb ov_4) 14) := by
  unfold ov_rn
  refine ov_main (ov_en e pb node wanted) _ _ (ov_b_XY hw) (fun j d h1 h2 t => ?_) 14 ov_z ov_t0
  obtain ⟨hj, hb, hk⟩ := ov_b_app (Nat.lt_of_le_of_lt h1 h2)
  rw [ov_b_3 hj hb hk] at h1
  cases hc : ov_co e pb node wanted d with
  | none => exact ov_en_n hc t
  | some c =>
    have := (ov_co_G hw hp hc j hb).1
    unfold ov_g1 at this
    rw [if_neg (by omega), if_pos hk] at this
    have := of_decide_eq_true this
    unfold ov_hc at h1
    omega
theorem ov_rd_lt {b : Nat → Nat} {w : Nat} (hw : w < ov_P b 14) {j : Nat} (hj : j < 14) : ov_rd b 14 w ov_z j < b j := by
  unfold ov_rd; rw [if_pos hj]; exact ov_dg_lt hw hj
theorem ov_rd_dg {b : Nat → Nat} {w : Nat} {j : Nat} (hj : j < 14) : ov_rd b 14 w ov_z j = ov_dg b w j := if_pos hj
theorem ov_P14 {e : ov_E} {pb : Nat → Bool} {a : Nat → Nat} (ha : ∀ j, a j ≤ 4) {k : Nat} (hk : k ≤ 14) : ov_P (ov_b e pb a) k ≤ 268435456 :=
  Nat.le_trans (ov_P_le (ov_b_le ha) k) (Nat.le_trans (Nat.pow_le_pow_right (by decide) hk) (by decide))
