/-! the constructors -/
def ov_c0 (m : Nat) : Nat → Option Nat := fun j => if j < m ∧ j % 4 ≠ 0 then none else some 0
theorem ov_c0_u {m : Nat} {x : Int32} (h : x = ov_o (if m % 4 ≠ 0 then none else some 0)) : upd (ov_C (ov_c0 m)) m x = ov_C (ov_c0 (m + 1)) := by
  subst h
  rw [ov_C_u]
  have : ov_u (ov_c0 m) m (if m % 4 ≠ 0 then none else some 0) = ov_c0 (m + 1) := by
    funext j
    by_cases hj : j = m
    · subst hj
      rw [ov_us]
      unfold ov_c0
      by_cases h4 : j % 4 ≠ 0
      · rw [if_pos h4, if_pos ⟨by omega, h4⟩]
      · rw [if_neg h4, if_neg (fun z => h4 z.2)]
    · rw [ov_un hj]
      unfold ov_c0
      by_cases h4 : j < m ∧ j % 4 ≠ 0
      · rw [if_pos h4, if_pos ⟨by omega, h4.2⟩]
      · rw [if_neg h4, if_neg (fun z => h4 ⟨by omega, z.2⟩)]
  rw [this]
def ov_v0 (m : Nat) : Nat → Nat := fun j => if j < m then 7 else 0
theorem ov_v0_u {m : Nat} : upd (ov_A (ov_v0 m)) m 7 = ov_A (ov_v0 (m + 1)) := by
  have : ov_u (ov_v0 m) m 7 = ov_v0 (m + 1) := by
    funext j
    unfold ov_v0
    by_cases hj : j = m
    · subst hj
      rw [ov_us, if_pos (by omega)]
    · rw [ov_un hj]
      by_cases h : j < m
      · rw [if_pos h, if_pos (by omega)]
      · rw [if_neg h, if_neg (by omega)]
  rw [← this, ← ov_A_u]
  rfl
def ov_e0 : ov_E := (0, ov_c0 9, ov_z, ov_z, ov_z, ov_v0 2, ov_z, ov_z, ov_z, ov_z, ov_z)
theorem ov_e0_W : ov_W ov_e0 := by
  refine ⟨Nat.zero_le _, fun i c h => ?_, fun _ => Nat.zero_lt_succ _, fun _ => Nat.zero_le _, fun _ => Nat.zero_le _, fun i => ?_, fun _ => Nat.zero_le _, fun _ => Nat.zero_lt_succ _, fun n h => absurd h (Nat.not_lt_zero n), Nat.zero_le _⟩
  · have h' : (if i < 9 ∧ i % 4 ≠ 0 then none else some 0) = some c := h
    split at h'
    · cases h'
    · have := Option.some.inj h'; omega
  · show (if i < 2 then 7 else 0) < 8
    split <;> omega
theorem ov_i0 : i_Rel 0 (0, 0, 0, -1, ov_C (ov_c0 9), fun _ => 0, fun _ => 0, fun _ => 0, ov_A (ov_v0 2), fun _ => 0, fun _ => 0, fun _ => 0, fun _ => 0, fun _ => 0, fun _ => 0, fun _ => 0, fun _ => 0, fun _ => 0, fun _ => 0, fun _ => 0, fun _ => 0, fun _ => 0) (0, 0, 0, 0, 0, 0, 0, ov_C (ov_c0 9), fun _ => 0, fun _ => 0, fun _ => 0, fun _ => 0, fun _ => 0, ov_A (ov_v0 2), fun _ => 0, fun _ => 0, fun _ => 0, fun _ => 0, fun _ => 0, fun _ => 0, fun _ => 0, fun _ => 0, fun _ => 0, fun _ => 0) :=
  by
    have R := ov_mkR (k := 0) (e := ov_e0) (tk := fun _ => 0) (pt := fun _ => 0) (op := fun _ => 0) (ch := fun _ => 0) (ty := fun _ => 0) (hs := fun _ => 0) (bc := fun _ => 0) (bt := fun _ => 0) (yq := fun _ => 0) (yr := fun _ => 0) (pa := fun _ => 0) (pq := fun _ => 0) (pv := fun _ => 0) (yt := fun _ => 0) (so := 0) (lo := -1) (to := 0) (fi := 0) (le := 0) (be := 0) (bo := 0) (sa := 0) ov_e0_W (fun n h => absurd h (Nat.not_lt_zero n))
    have hz : ov_A ov_z = fun _ => 0 := by funext i; rfl
    have h9 : ov_A (ov_s9 ov_e0) = fun _ => 0 := by funext i; show nI (0 / 9) = 0; decide
    have h3 : ov_A (ov_s3 ov_e0) = fun _ => 0 := by funext i; show nI (0 / 3 % 3) = 0; decide
    have h1 : ov_A (ov_s1 ov_e0) = fun _ => 0 := by funext i; show nI (0 % 3) = 0; decide
    rw [h9, h3, h1] at R
    exact R
theorem oy_init {post : SY → Prop} (hp : post (0, 0, 0, 0, 0, 0, 0, ov_C (ov_c0 9), fun _ => 0, fun _ => 0, fun _ => 0, fun _ => 0, fun _ => 0, ov_A (ov_v0 2), fun _ => 0, fun _ => 0, fun _ => 0, fun _ => 0, fun _ => 0, fun _ => 0, fun _ => 0, fun _ => 0, fun _ => 0, fun _ => 0)) : wpY_init post := by
  refine loop_0 (fun n i (_ : Unit) => wY_init_138 post 0 0 0 0 0 0 0 n (nI i) (ov_C (ov_c0 i)) (fun _ => 0) (fun _ => 0) (fun _ => 0) (fun _ => 0) (fun _ => 0) (fun _ => 0) (fun _ => 0) (fun _ => 0) (fun _ => 0) (fun _ => 0) (fun _ => 0) (fun _ => 0) (fun _ => 0) (fun _ => 0) (fun _ => 0) (fun _ => 0)) (fun _ _ => True) 9 () trivial (fun n s _ => ?_) (fun n i s hi _ hk => ?_)
  · refine br_t (nI_le (a := 9) (Nat.le_refl 9) (by omega)) (nm_r (e' := ov_A (ov_v0 1)) (ov_v0_u (m := 0)) (nm_r (e' := ov_A (ov_v0 2)) (ov_v0_u (m := 1)) hp))
  · have hv : vp_in (nI i) 9 := vp_in_nI hi (by omega)
    have hk' := hk () trivial
    refine br_f (nI_ge (b := 9) hi (by omega)) ⟨ov_43, ?_⟩
    rw [ov_rem4 (by omega)]
    refine pk_eq (i % 4) 0 (fun h => ?_) (fun h => ?_)
    · exact ⟨hv, nm_r (e' := ov_C (ov_c0 (i + 1))) (by rw [nI_clamp (by omega)]; exact ov_c0_u (by rw [if_neg (fun z => z h)]; rfl)) (nm_r (nI_1 _) hk')⟩
    · exact ⟨hv, nm_r (e' := ov_C (ov_c0 (i + 1))) (by rw [nI_clamp (by omega)]; exact ov_c0_u (by rw [if_pos h]; rfl)) (nm_r (nI_1 _) hk')⟩
theorem ox_init_213 {post : SX → Prop} {c : Nat → Int32} (hp : post (0, 0, 0, -1, c, fun _ => 0, fun _ => 0, fun _ => 0, ov_A (ov_v0 2), fun _ => 0, fun _ => 0, fun _ => 0, fun _ => 0, fun _ => 0, fun _ => 0, fun _ => 0, fun _ => 0, fun _ => 0, fun _ => 0, fun _ => 0, fun _ => 0, fun _ => 0)) : ∃ n, wX_init_213 post 0 0 0 (-1) n 0 c (fun _ => 0) (fun _ => 0) (fun _ => 0) (fun _ => 0) (fun _ => 0) (fun _ => 0) (fun _ => 0) (fun _ => 0) (fun _ => 0) (fun _ => 0) (fun _ => 0) (fun _ => 0) (fun _ => 0) (fun _ => 0) (fun _ => 0) (fun _ => 0) (fun _ => 0) := by
  refine loop_0 (fun n i (_ : Unit) => wX_init_213 post 0 0 0 (-1) n (nI i) c (fun _ => 0) (fun _ => 0) (fun _ => 0) (ov_A (ov_v0 i)) (fun _ => 0) (fun _ => 0) (fun _ => 0) (fun _ => 0) (fun _ => 0) (fun _ => 0) (fun _ => 0) (fun _ => 0) (fun _ => 0) (fun _ => 0) (fun _ => 0) (fun _ => 0) (fun _ => 0)) (fun _ _ => True) 2 () trivial (fun n s _ => ?_) (fun n i s hi _ hk => ?_)
  · exact br_t (nI_le (a := 2) (Nat.le_refl 2) (by omega)) hp
  · have hv : vp_in (nI i) 2 := vp_in_nI hi (by omega)
    have hk' := hk () trivial
    exact br_f (nI_ge (b := 2) hi (by omega)) ⟨hv, nm_r (e' := ov_A (ov_v0 (i + 1))) (by rw [nI_clamp (by omega)]; exact ov_v0_u) (nm_r (nI_1 _) hk')⟩
theorem ox_init_174 {post : SX → Prop} {i : Nat} (hi : i < 3) {J : Int32 → (Nat → Int32) → (Nat → Int32) → (Nat → Int32) → (Nat → Int32) → (Nat → Int32) → (Nat → Int32) → (Nat → Int32) → (Nat → Int32) → (Nat → Int32) → (Nat → Int32) → (Nat → Int32) → (Nat → Int32) → (Nat → Int32) → (Nat → Int32) → (Nat → Int32) → (Nat → Int32) → (Nat → Int32) → (Nat → Int32) → Prop} (hJ : J (nI (i + 1)) (ov_C (ov_c0 (3 * i + 3))) (fun _ => 0) (fun _ => 0) (fun _ => 0) (fun _ => 0) (fun _ => 0) (fun _ => 0) (fun _ => 0) (fun _ => 0) (fun _ => 0) (fun _ => 0) (fun _ => 0) (fun _ => 0) (fun _ => 0) (fun _ => 0) (fun _ => 0) (fun _ => 0) (fun _ => 0)) : ∃ n, wX_init_174 post J (nI i) 0 0 0 (-1) n 0 (ov_C (ov_c0 (3 * i))) (fun _ => 0) (fun _ => 0) (fun _ => 0) (fun _ => 0) (fun _ => 0) (fun _ => 0) (fun _ => 0) (fun _ => 0) (fun _ => 0) (fun _ => 0) (fun _ => 0) (fun _ => 0) (fun _ => 0) (fun _ => 0) (fun _ => 0) (fun _ => 0) (fun _ => 0) := by
  refine loop_0 (fun n j (_ : Unit) => wX_init_174 post J (nI i) 0 0 0 (-1) n (nI j) (ov_C (ov_c0 (3 * i + j))) (fun _ => 0) (fun _ => 0) (fun _ => 0) (fun _ => 0) (fun _ => 0) (fun _ => 0) (fun _ => 0) (fun _ => 0) (fun _ => 0) (fun _ => 0) (fun _ => 0) (fun _ => 0) (fun _ => 0) (fun _ => 0) (fun _ => 0) (fun _ => 0) (fun _ => 0)) (fun _ _ => True) 3 () trivial (fun n s _ => ?_) (fun n j s hj _ hk => ?_)
  · exact br_t (nI_le (a := 3) (Nat.le_refl 3) (by omega)) (nm_r (nI_1 _) hJ)
  · have hk' := hk () trivial
    have hv : vp_in (3 * nI i + nI j) 9 := by rw [ov_ix3]; exact vp_in_nI (by omega) (by omega)
    refine br_f (nI_ge (b := 3) hj (by omega)) (pk_eq i j (fun h => ?_) (fun h => ?_))
    · exact ⟨hv, nm_r (e' := ov_C (ov_c0 (3 * i + j + 1))) (by rw [ov_ix3, nI_clamp (by omega)]; exact ov_c0_u (by rw [if_neg (fun z => z (by omega))]; rfl)) (nm_r (nI_1 _) hk')⟩
    · exact ⟨hv, nm_r (e' := ov_C (ov_c0 (3 * i + j + 1))) (by rw [ov_ix3, nI_clamp (by omega)]; exact ov_c0_u (by rw [if_pos (by omega)]; rfl)) (nm_r (nI_1 _) hk')⟩
theorem i_vc0 : wpX_init (fun u => wpY_init (fun v => i_Rel 0 u v)) := by
  have h : ∀ post : SX → Prop, post (0, 0, 0, -1, ov_C (ov_c0 9), fun _ => 0, fun _ => 0, fun _ => 0, ov_A (ov_v0 2), fun _ => 0, fun _ => 0, fun _ => 0, fun _ => 0, fun _ => 0, fun _ => 0, fun _ => 0, fun _ => 0, fun _ => 0, fun _ => 0, fun _ => 0, fun _ => 0, fun _ => 0) → wpX_init post := by
    intro post hp
    refine loop_0 (fun n i (_ : Unit) => wX_init_167 post 0 0 0 (-1) n (nI i) (ov_C (ov_c0 (3 * i))) (fun _ => 0) (fun _ => 0) (fun _ => 0) (fun _ => 0) (fun _ => 0) (fun _ => 0) (fun _ => 0) (fun _ => 0) (fun _ => 0) (fun _ => 0) (fun _ => 0) (fun _ => 0) (fun _ => 0) (fun _ => 0) (fun _ => 0) (fun _ => 0) (fun _ => 0)) (fun _ _ => True) 3 () trivial (fun n s _ => ?_) (fun n i s hi _ hk => ?_)
    · exact br_t (nI_le (a := 3) (Nat.le_refl 3) (by omega)) (ox_init_213 hp)
    · exact br_f (nI_ge (b := 3) hi (by omega)) (ox_init_174 hi (hk () trivial))
  exact h _ (oy_init ov_i0)
