/-! the relation; tests by naturals -/
def ov_o : Option Nat → Int32
  | none => -1
  | some c => nI c
def ov_C (f : Nat → Option Nat) : Nat → Int32 := fun i => ov_o (f i)
def ov_A (f : Nat → Nat) : Nat → Int32 := fun i => nI (f i)
def ov_s9 (e : ov_E) : Nat → Nat := fun i => ov_st e i / 9
def ov_s3 (e : ov_E) : Nat → Nat := fun i => ov_st e i / 3 % 3
def ov_s1 (e : ov_E) : Nat → Nat := fun i => ov_st e i % 3
theorem ov_A_u (f : Nat → Nat) (k x : Nat) : upd (ov_A f) k (nI x) = ov_A (ov_u f k x) := by
  funext j
  by_cases h : j = k
  · subst h; rw [pk_us]; unfold ov_A; rw [ov_us]
  · rw [pk_un h]; unfold ov_A; rw [ov_un h]
theorem ov_C_u (f : Nat → Option Nat) (k : Nat) (x : Option Nat) : upd (ov_C f) k (ov_o x) = ov_C (ov_u f k x) := by
  funext j
  by_cases h : j = k
  · subst h; rw [pk_us]; unfold ov_C; rw [ov_us]
  · rw [pk_un h]; unfold ov_C; rw [ov_un h]
theorem ov_AU {f : Nat → Nat} {n v : Nat} (h : n < 2 ^ 31) : upd (ov_A f) (nI n).toNatClampNeg (nI v) = ov_A (ov_u f n v) := by
  rw [nI_clamp h, ov_A_u]
theorem ov_AV {f : Nat → Nat} {n : Nat} (h : n < 2 ^ 31) : ov_A f (nI n).toNatClampNeg = nI (f n) := by
  rw [nI_clamp h]; rfl
theorem ov_ix3 (a b : Nat) : (3 * nI a) + nI b = nI (3 * a + b) := by
  show nI 3 * nI a + nI b = _
  rw [pk_mul, nI_add]
theorem ov_ix4 (a b : Nat) : (4 * nI a) + nI b = nI (4 * a + b) := by
  show nI 4 * nI a + nI b = _
  rw [pk_mul, nI_add]
theorem ov_ix12 (a : Nat) : 12 + nI a = nI (12 + a) := nI_add 12 a
theorem ov_m1n {j : Nat} (h : j < 2 ^ 31) : ¬ nI j = -1 := fun z => by
  have h1 := congrArg Int32.toInt z
  rw [nI_toInt h] at h1
  have h2 : (-1 : Int32).toInt = -1 := by decide
  omega
theorem ov_m1l {j : Nat} (h : j < 2 ^ 31) : ¬ nI j < -1 := by
  rw [Int32.lt_iff_toInt_lt, nI_toInt h, show (-1 : Int32).toInt = -1 from by decide]; omega
theorem ov_m1x {x : Int32} (h : x < 0) (h1 : ¬ x = -1) : x < -1 := by
  rw [Int32.lt_iff_toInt_lt] at h ⊢
  have h2 : (-1 : Int32).toInt = -1 := by decide
  have h3 : (0 : Int32).toInt = 0 := by decide
  have h4 : ¬ x.toInt = -1 := fun z => h1 (Int32.toInt_inj.mp (z.trans h2.symm))
  omega
theorem ov_lt0 {x : Int32} {a : Nat} (h : x < 0) (ha : a < 2 ^ 31) : x < nI a := by
  rw [Int32.lt_iff_toInt_lt] at h ⊢
  have h3 : (0 : Int32).toInt = 0 := by decide
  rw [nI_toInt ha]
  omega
def ov_in (a n : Nat) (x : Int32) : Prop := ∃ j : Nat, a ≤ j ∧ j < n ∧ x = nI j
theorem ov_xt {x l u : Int32} {A B C : Prop} (a n : Nat) (h : ov_in a n x) (b : B) (hl : l = nI a := by rfl) (hu : u = nI n := by rfl) (hn : n < 2 ^ 31 := by omega) : (x < l → A) ∧ (¬ x < l → ((u ≤ x → C) ∧ (¬ u ≤ x → B))) := by
  obtain ⟨j, h1, h2, rfl⟩ := h
  exact pk_lt j a (fun z => absurd z (by omega)) (fun _ => pk_le n j (fun z => absurd z (by omega)) (fun _ => b) hu rfl hn (by omega)) rfl hl (by omega) (by omega)
theorem ov_xf {x l u : Int32} {A B C : Prop} (a n : Nat) (h : ¬ ov_in a n x) (b : A) (c : C) (hl : l = nI a := by rfl) (hu : u = nI n := by rfl) (hn : n < 2 ^ 31 := by omega) (ha : a < 2 ^ 31 := by omega) : (x < l → A) ∧ (¬ x < l → ((u ≤ x → C) ∧ (¬ u ≤ x → B))) := by
  subst hl
  rcases Classical.em (x < 0) with hx | hx
  · exact br_t (ov_lt0 hx ha) b
  · obtain ⟨j, hj, rfl⟩ := nI_of hx
    exact pk_lt j a (fun _ => b) (fun z => pk_le n j (fun _ => c) (fun z' => absurd ⟨j, z, z', rfl⟩ h) hu rfl hn hj) rfl rfl hj ha
theorem ov_vt {x l u : Int32} {A B C : Prop} (a n : Nat) (h : ov_in a (n + 1) x) (b : B) (hl : l = nI a := by rfl) (hu : u = nI n := by rfl) (hn : n < 2 ^ 31 - 1 := by omega) : (x < l → A) ∧ (¬ x < l → ((u < x → C) ∧ (¬ u < x → B))) := by
  obtain ⟨j, h1, h2, rfl⟩ := h
  exact pk_lt j a (fun z => absurd z (by omega)) (fun _ => pk_lt n j (fun z => absurd z (by omega)) (fun _ => b) hu rfl (by omega) (by omega)) rfl hl (by omega) (by omega)
theorem ov_vf {x l u : Int32} {A B C : Prop} (a n : Nat) (h : ¬ ov_in a (n + 1) x) (b : A) (c : C) (hl : l = nI a := by rfl) (hu : u = nI n := by rfl) (hn : n < 2 ^ 31 - 1 := by omega) (ha : a < 2 ^ 31 := by omega) : (x < l → A) ∧ (¬ x < l → ((u < x → C) ∧ (¬ u < x → B))) := by
  subst hl
  rcases Classical.em (x < 0) with hx | hx
  · exact br_t (ov_lt0 hx ha) b
  · obtain ⟨j, hj, rfl⟩ := nI_of hx
    exact pk_lt j a (fun _ => b) (fun z => pk_lt n j (fun _ => c) (fun z' => absurd ⟨j, z, by omega, rfl⟩ h) hu rfl (by omega) hj) rfl rfl hj ha
theorem ov_yt {x l u : Int32} {A B C : Prop} (a n : Nat) (h : ov_in a (n + 1) x) (b : B) (hl : l = nI a := by rfl) (hu : u = nI n := by rfl) (hn : n < 2 ^ 31 - 1 := by omega) : (x < l → A) ∧ (¬ x < l → ((x ≤ u → B) ∧ (¬ x ≤ u → C))) := by
  obtain ⟨j, h1, h2, rfl⟩ := h
  exact pk_lt j a (fun z => absurd z (by omega)) (fun _ => pk_le j n (fun _ => b) (fun z => absurd z (by omega)) rfl hu (by omega) (by omega)) rfl hl (by omega) (by omega)
theorem ov_yf {x l u : Int32} {A B C : Prop} (a n : Nat) (h : ¬ ov_in a (n + 1) x) (b : A) (c : C) (hl : l = nI a := by rfl) (hu : u = nI n := by rfl) (hn : n < 2 ^ 31 - 1 := by omega) (ha : a < 2 ^ 31 := by omega) : (x < l → A) ∧ (¬ x < l → ((x ≤ u → B) ∧ (¬ x ≤ u → C))) := by
  subst hl
  rcases Classical.em (x < 0) with hx | hx
  · exact br_t (ov_lt0 hx ha) b
  · obtain ⟨j, hj, rfl⟩ := nI_of hx
    exact pk_lt j a (fun _ => b) (fun z => pk_le j n (fun z' => absurd ⟨j, z, by omega, rfl⟩ h) (fun _ => c) rfl hu hj (by omega)) rfl rfl hj ha
theorem ov_zt {x l u : Int32} {A B C : Prop} (a n : Nat) (h : ov_in a n x) (b : B) (hl : l = nI a := by rfl) (hu : u = nI n := by rfl) (hn : n < 2 ^ 31 := by omega) : (x < l → A) ∧ (¬ x < l → ((x < u → B) ∧ (¬ x < u → C))) := by
  obtain ⟨j, h1, h2, rfl⟩ := h
  exact pk_lt j a (fun z => absurd z (by omega)) (fun _ => pk_lt j n (fun _ => b) (fun z => absurd z (by omega)) rfl hu (by omega) (by omega)) rfl hl (by omega) (by omega)
theorem ov_zf {x l u : Int32} {A B C : Prop} (a n : Nat) (h : ¬ ov_in a n x) (b : A) (c : C) (hl : l = nI a := by rfl) (hu : u = nI n := by rfl) (hn : n < 2 ^ 31 := by omega) (ha : a < 2 ^ 31 := by omega) : (x < l → A) ∧ (¬ x < l → ((x < u → B) ∧ (¬ x < u → C))) := by
  subst hl
  rcases Classical.em (x < 0) with hx | hx
  · exact br_t (ov_lt0 hx ha) b
  · obtain ⟨j, hj, rfl⟩ := nI_of hx
    exact pk_lt j a (fun _ => b) (fun z => pk_lt j n (fun z' => absurd ⟨j, z, by omega, rfl⟩ h) (fun _ => c) rfl hu hj (by omega)) rfl rfl hj ha
theorem ov_10 : ¬ (1 : Int32) = 0 := by decide
section
variable {post : Int32 → Prop} {x : Int32}
theorem ox_isType_t (h : ov_in 0 3 x) (hp : post 1) : wpX_isType post x := ov_xt 0 3 h hp
theorem ox_isType_f (h : ¬ ov_in 0 3 x) (hp : post 0) : wpX_isType post x := ov_xf 0 3 h hp hp
theorem ox_isOperator_t (h : ov_in 0 3 x) (hp : post 1) : wpX_isOperator post x := ov_xt 0 3 h hp
theorem ox_isOperator_f (h : ¬ ov_in 0 3 x) (hp : post 0) : wpX_isOperator post x := ov_xf 0 3 h hp hp
theorem ox_isVariable_t (h : ov_in 0 2 x) (hp : post 1) : wpX_isVariable post x := ov_xt 0 2 h hp
theorem ox_isVariable_f (h : ¬ ov_in 0 2 x) (hp : post 0) : wpX_isVariable post x := ov_xf 0 2 h hp hp
theorem ox_isCost_t (h : ov_in 0 10 x) (hp : post 1) : wpX_isCost post x := ov_vt 0 9 h hp
theorem ox_isCost_f (h : ¬ ov_in 0 10 x) (hp : post 0) : wpX_isCost post x := ov_vf 0 9 h hp hp
theorem ox_isSet_t (h : ov_in 1 8 x) (hp : post 1) : wpX_isSet post x := ov_vt 1 7 h hp
theorem ox_isSet_f (h : ¬ ov_in 1 8 x) (hp : post 0) : wpX_isSet post x := ov_vf 1 7 h hp hp
variable {u : SY}
theorem oy_badType_t (h : ov_in 0 3 x) (hp : post 0) : wpY_badType post u x := ov_yt 0 2 h hp
theorem oy_badType_f (h : ¬ ov_in 0 3 x) (hp : post 1) : wpY_badType post u x := ov_yf 0 2 h hp hp
theorem oy_badOp_t (h : ov_in 0 3 x) (hp : post 0) : wpY_badOp post u x := ov_yt 0 2 h hp
theorem oy_badOp_f (h : ¬ ov_in 0 3 x) (hp : post 1) : wpY_badOp post u x := ov_yf 0 2 h hp hp
theorem oy_badCost_t (h : ov_in 0 10 x) (hp : post 0) : wpY_badCost post u x := ov_yt 0 9 h hp
theorem oy_badCost_f (h : ¬ ov_in 0 10 x) (hp : post 1) : wpY_badCost post u x := ov_yf 0 9 h hp hp
end
/-- the two hold the same tables and the same nodes -/
def i_Rel (_ : Nat) (u : SX) (v : SY) : Prop := ∃ (e : ov_E) (tk pt op ch ty hs bc bt yq yr pa pq pv yt : Nat → Int32) (so lo to fi le be bo sa : Int32), u = (nI (ov_nc e), nI (ov_ac e), so, lo, ov_C (ov_cv e), ov_A (ov_st e), ov_A (ov_sc e), ov_A (ov_hd e), ov_A (ov_vs e), ov_A (ov_lt e), ov_A (ov_kd e), ov_A (ov_ct e), ov_A (ov_lf e), ov_A (ov_rt e), tk, pt, op, ch, ty, hs, bc, bt) ∧ v = (nI (ov_nc e), to, fi, le, be, bo, sa, ov_C (ov_cv e), ov_A (ov_hd e), ov_A (ov_s9 e), ov_A (ov_s3 e), ov_A (ov_s1 e), ov_A (ov_sc e), ov_A (ov_vs e), ov_A (ov_lt e), ov_A (ov_kd e), ov_A (ov_ct e), yq, yr, tk, pa, pq, pv, yt) ∧ ov_W e ∧ (∀ n, n < ov_nc e → ov_kd e n = 3 → yq n = nI (ov_lf e n) ∧ yr n = nI (ov_rt e n))
theorem i_up {k : Nat} {u : SX} {v : SY} (h : i_Rel k u v) : i_Rel (k + 4) u v := h
section
variable {e : ov_E} {tk pt op ch ty hs bc bt yq yr pa pq pv yt : Nat → Int32} {so lo to fi le be bo sa : Int32}
theorem ov_mkR {k : Nat} (hw : ov_W e) (hq : ∀ n, n < ov_nc e → ov_kd e n = 3 → yq n = nI (ov_lf e n) ∧ yr n = nI (ov_rt e n)) : i_Rel k (nI (ov_nc e), nI (ov_ac e), so, lo, ov_C (ov_cv e), ov_A (ov_st e), ov_A (ov_sc e), ov_A (ov_hd e), ov_A (ov_vs e), ov_A (ov_lt e), ov_A (ov_kd e), ov_A (ov_ct e), ov_A (ov_lf e), ov_A (ov_rt e), tk, pt, op, ch, ty, hs, bc, bt) (nI (ov_nc e), to, fi, le, be, bo, sa, ov_C (ov_cv e), ov_A (ov_hd e), ov_A (ov_s9 e), ov_A (ov_s3 e), ov_A (ov_s1 e), ov_A (ov_sc e), ov_A (ov_vs e), ov_A (ov_lt e), ov_A (ov_kd e), ov_A (ov_ct e), yq, yr, tk, pa, pq, pv, yt) :=
  ⟨e, tk, pt, op, ch, ty, hs, bc, bt, yq, yr, pa, pq, pv, yt, so, lo, to, fi, le, be, bo, sa, rfl, rfl, hw, hq⟩
theorem ox_isNode_t {post : Int32 → Prop} {x : Int32} (hw : ov_W e) (h : ov_in 0 (ov_nc e) x) (hp : post 1) : wpX_isNode post (nI (ov_nc e), nI (ov_ac e), so, lo, ov_C (ov_cv e), ov_A (ov_st e), ov_A (ov_sc e), ov_A (ov_hd e), ov_A (ov_vs e), ov_A (ov_lt e), ov_A (ov_kd e), ov_A (ov_ct e), ov_A (ov_lf e), ov_A (ov_rt e), tk, pt, op, ch, ty, hs, bc, bt) x := ov_xt 0 (ov_nc e) h hp rfl rfl (by have := hw.1; omega)
theorem ox_isNode_f {post : Int32 → Prop} {x : Int32} (hw : ov_W e) (h : ¬ ov_in 0 (ov_nc e) x) (hp : post 0) : wpX_isNode post (nI (ov_nc e), nI (ov_ac e), so, lo, ov_C (ov_cv e), ov_A (ov_st e), ov_A (ov_sc e), ov_A (ov_hd e), ov_A (ov_vs e), ov_A (ov_lt e), ov_A (ov_kd e), ov_A (ov_ct e), ov_A (ov_lf e), ov_A (ov_rt e), tk, pt, op, ch, ty, hs, bc, bt) x := ov_xf 0 (ov_nc e) h hp hp rfl rfl (by have := hw.1; omega)
theorem oy_badNode_t {post : Int32 → Prop} {x : Int32} (hw : ov_W e) (h : ov_in 0 (ov_nc e) x) (hp : post 0) : wpY_badNode post (nI (ov_nc e), to, fi, le, be, bo, sa, ov_C (ov_cv e), ov_A (ov_hd e), ov_A (ov_s9 e), ov_A (ov_s3 e), ov_A (ov_s1 e), ov_A (ov_sc e), ov_A (ov_vs e), ov_A (ov_lt e), ov_A (ov_kd e), ov_A (ov_ct e), yq, yr, tk, pa, pq, pv, yt) x := by
  have h12 := hw.1
  refine ov_xt 0 (ov_nc e) h ?_ rfl rfl (by omega)
  obtain ⟨j, h1, h2, rfl⟩ := h
  exact pk_lt j 12 (fun _ => hp) (fun z => absurd z (by omega))
theorem oy_badNode_f {post : Int32 → Prop} {x : Int32} (hw : ov_W e) (h : ¬ ov_in 0 (ov_nc e) x) (hp : post 1) : wpY_badNode post (nI (ov_nc e), to, fi, le, be, bo, sa, ov_C (ov_cv e), ov_A (ov_hd e), ov_A (ov_s9 e), ov_A (ov_s3 e), ov_A (ov_s1 e), ov_A (ov_sc e), ov_A (ov_vs e), ov_A (ov_lt e), ov_A (ov_kd e), ov_A (ov_ct e), yq, yr, tk, pa, pq, pv, yt) x := ov_xf 0 (ov_nc e) h hp hp rfl rfl (by have := hw.1; omega)
end
