/-! Y: the parts, the names, the total, the reading of a code -/
theorem ov_P1s {b : Nat → Nat} {i : Nat} (h : b i = 1) : ov_P b (i + 1) = ov_P b i := by
  show ov_P b i * b i = _
  rw [h, Nat.mul_one]
theorem ov_P_nc {e : ov_E} (hw : ov_W e) {pb : Nat → Bool} {node : Nat} (hp : ov_P1 e pb node) {a : Nat → Nat} : ov_P (ov_b e pb a) (ov_nc e) = ov_P (ov_b e pb a) 12 := by
  have h : ∀ r, ov_nc e + r ≤ 12 → ov_P (ov_b e pb a) (ov_nc e + r) = ov_P (ov_b e pb a) (ov_nc e) := by
    intro r
    induction r with
    | zero => exact fun _ => rfl
    | succ r ih =>
      intro hr
      rw [← ih (by omega)]
      exact ov_P1s (i := ov_nc e + r) (ov_b_1 (by omega) (fun hb => by rw [ov_pb_f hp (Nat.le_add_right _ _)] at hb; exact absurd hb Bool.false_ne_true))
  have h12 := hw.1
  have := h (12 - ov_nc e) (by omega)
  rw [show ov_nc e + (12 - ov_nc e) = 12 by omega] at this
  exact this.symm
section
variable {e : ov_E} {tk yq yr pa pq pv yt : Nat → Int32} {to fi le be bo sa : Int32}
theorem oy_names (hw : ov_W e) {pb : Nat → Bool} {node : Nat} (hp : ov_P1 e pb node) (hpa : ∀ j, j < 12 → pa j = ov_bI (pb j)) {v : Nat} (hv : v < 2) {post : Int32 → Prop} (h : post (ov_bI (ov_nm e pb v 12))) : wpY_names post (nI (ov_nc e), to, fi, le, be, bo, sa, ov_C (ov_cv e), ov_A (ov_hd e), ov_A (ov_s9 e), ov_A (ov_s3 e), ov_A (ov_s1 e), ov_A (ov_sc e), ov_A (ov_vs e), ov_A (ov_lt e), ov_A (ov_kd e), ov_A (ov_ct e), yq, yr, tk, pa, pq, pv, yt) (nI v) := by
  have h12 := hw.1
  rw [← ov_nm_nc hw hp] at h
  refine loop_0 (fun n i (_ : Unit) => wY_names_2 post (nI v) (nI (ov_nc e)) to fi le be bo sa (ov_C (ov_cv e)) (ov_A (ov_hd e)) (ov_A (ov_s9 e)) (ov_A (ov_s3 e)) (ov_A (ov_s1 e)) (ov_A (ov_sc e)) (ov_A (ov_vs e)) (ov_A (ov_lt e)) (ov_A (ov_kd e)) (ov_A (ov_ct e)) yq yr tk pa pq pv yt n (nI i)) (fun i _ => ov_nm e pb v i = false) (ov_nc e) () rfl (fun n s hI => ?_) (fun n i s hi hI hk => ?_)
  · rw [hI] at h
    exact br_t (nI_le (Nat.le_refl _) (by omega)) h
  · have hN := hw.2.2.2.2.2.2.2.2.1 i hi
    have hk3 := hN.1
    have hiv : vp_in (nI i) 12 := vp_in_nI (by omega) (by omega)
    have hct := hw.2.2.2.2.2.2.2.1 i
    refine br_f (nI_ge hi (by omega)) (br_f (nI_ge (b := 12) (by omega) (by omega)) ⟨hiv, ov_pc (b := pb i) (by rw [nI_clamp (by omega)]; exact hpa i (by omega)) (fun hb => ?_) (fun hb => ⟨hiv, pk_eq (ov_kd e i) 1 (fun h1 => ⟨hiv, pk_eq (ov_ct e i) v (fun hc => ?_) (fun hc => ?_) (ov_AV (by omega)) rfl (by omega) (by omega)⟩) (fun h1 => ?_) (ov_AV (by omega)) rfl (by omega) (by omega)⟩)⟩)
    · exact nm_r (nI_1 _) (hk () (by rw [ov_nm_skip (fun z => by rw [hb] at z; exact Bool.false_ne_true z.1)]; exact hI))
    · have := ov_nm_of hb h1 (ov_nc e) hi
      rw [hc] at this
      rw [this] at h
      exact h
    · exact nm_r (nI_1 _) (hk () (by rw [ov_nm_skip (fun z => hc z.2.2)]; exact hI))
    · exact nm_r (nI_1 _) (hk () (by rw [ov_nm_skip (fun z => h1 z.2.1)]; exact hI))
theorem oy_mark_169 (hw : ov_W e) {pb : Nat → Bool} {node : Nat} (hp : ov_P1 e pb node) (hpa : ∀ j, j < 12 → pa j = ov_bI (pb j)) {post : SY → Prop} (h : post (nI (ov_nc e), nI (ov_P (ov_b e pb ov_4) 14), fi, le, be, bo, sa, ov_C (ov_cv e), ov_A (ov_hd e), ov_A (ov_s9 e), ov_A (ov_s3 e), ov_A (ov_s1 e), ov_A (ov_sc e), ov_A (ov_vs e), ov_A (ov_lt e), ov_A (ov_kd e), ov_A (ov_ct e), yq, yr, tk, pa, pq, pv, yt)) : wY_mark_169 post (nI (ov_nc e)) (nI (ov_P (ov_b e pb ov_4) 12)) fi le be bo sa (ov_C (ov_cv e)) (ov_A (ov_hd e)) (ov_A (ov_s9 e)) (ov_A (ov_s3 e)) (ov_A (ov_s1 e)) (ov_A (ov_sc e)) (ov_A (ov_vs e)) (ov_A (ov_lt e)) (ov_A (ov_kd e)) (ov_A (ov_ct e)) yq yr tk pa pq pv yt := by
  have k1 : ∀ t : Int32, t = nI (ov_P (ov_b e pb ov_4) 13) → wY_mark_187 post (nI (ov_nc e)) t fi le be bo sa (ov_C (ov_cv e)) (ov_A (ov_hd e)) (ov_A (ov_s9 e)) (ov_A (ov_s3 e)) (ov_A (ov_s1 e)) (ov_A (ov_sc e)) (ov_A (ov_vs e)) (ov_A (ov_lt e)) (ov_A (ov_kd e)) (ov_A (ov_ct e)) yq yr tk pa pq pv yt := by
    intro t ht
    subst ht
    refine oy_names hw hp hpa (v := 1) (by omega) (ov_pc rfl (fun hb => ?_) (fun hb => ?_))
    · have hb1 : ov_b e pb ov_4 13 = 1 := (ov_b_v (v := 1)).trans (if_neg (by rw [hb]; exact Bool.false_ne_true))
      rw [ov_P1s hb1] at h; exact h
    · have hb1 : ov_b e pb ov_4 13 = 3 := (ov_b_v (v := 1)).trans (if_pos hb)
      refine nm_r (e' := nI (ov_P (ov_b e pb ov_4) 14)) ?_ h
      show nI _ * nI 3 = nI (ov_P (ov_b e pb ov_4) 13 * ov_b e pb ov_4 13)
      rw [pk_mul, hb1]
  refine oy_names hw hp hpa (v := 0) (by omega) (ov_pc rfl (fun hb => ?_) (fun hb => ?_))
  · have hb1 : ov_b e pb ov_4 12 = 1 := (ov_b_v (v := 0)).trans (if_neg (by rw [hb]; exact Bool.false_ne_true))
    exact k1 _ (by rw [ov_P1s hb1])
  · have hb1 : ov_b e pb ov_4 12 = 3 := (ov_b_v (v := 0)).trans (if_pos hb)
    refine nm_r (e' := nI (ov_P (ov_b e pb ov_4) 13)) ?_ (k1 _ rfl)
    show nI _ * nI 3 = nI (ov_P (ov_b e pb ov_4) 12 * ov_b e pb ov_4 12)
    rw [pk_mul, hb1]
theorem oy_mark_92 (hw : ov_W e) {pb : Nat → Bool} {node : Nat} (hp : ov_P1 e pb node) (hpa : ∀ j, j < 12 → pa j = ov_bI (pb j)) {post : SY → Prop} (h : post (nI (ov_nc e), nI (ov_P (ov_b e pb ov_4) 14), fi, le, be, bo, sa, ov_C (ov_cv e), ov_A (ov_hd e), ov_A (ov_s9 e), ov_A (ov_s3 e), ov_A (ov_s1 e), ov_A (ov_sc e), ov_A (ov_vs e), ov_A (ov_lt e), ov_A (ov_kd e), ov_A (ov_ct e), yq, yr, tk, pa, pq, pv, yt)) : ∃ n, wY_mark_92 post (nI (ov_nc e)) fi le be bo sa (ov_C (ov_cv e)) (ov_A (ov_hd e)) (ov_A (ov_s9 e)) (ov_A (ov_s3 e)) (ov_A (ov_s1 e)) (ov_A (ov_sc e)) (ov_A (ov_vs e)) (ov_A (ov_lt e)) (ov_A (ov_kd e)) (ov_A (ov_ct e)) yq yr tk pa pq pv yt n 0 1 := by
  have h12 := hw.1
  refine loop_0 (fun n i (_ : Unit) => wY_mark_92 post (nI (ov_nc e)) fi le be bo sa (ov_C (ov_cv e)) (ov_A (ov_hd e)) (ov_A (ov_s9 e)) (ov_A (ov_s3 e)) (ov_A (ov_s1 e)) (ov_A (ov_sc e)) (ov_A (ov_vs e)) (ov_A (ov_lt e)) (ov_A (ov_kd e)) (ov_A (ov_ct e)) yq yr tk pa pq pv yt n (nI i) (nI (ov_P (ov_b e pb ov_4) i))) (fun _ _ => True) (ov_nc e) () trivial (fun n s _ => ?_) (fun n i s hi _ hk => ?_)
  · refine br_t (nI_le (Nat.le_refl _) (by omega)) ?_
    rw [ov_P_nc hw hp]
    exact oy_mark_169 hw hp hpa h
  · have hN := hw.2.2.2.2.2.2.2.2.1 i hi
    have hk3 := hN.1
    have hiv : vp_in (nI i) 12 := vp_in_nI (by omega) (by omega)
    have hpi : pa (nI i).toNatClampNeg = ov_bI (pb i) := by rw [nI_clamp (by omega)]; exact hpa i (by omega)
    have hk' := hk () trivial
    have hPs : ov_P (ov_b e pb ov_4) (i + 1) = ov_P (ov_b e pb ov_4) i * ov_b e pb ov_4 i := rfl
    refine br_f (nI_ge hi (by omega)) (br_f (nI_ge (b := 12) (by omega) (by omega)) ⟨hiv, ov_pc (b := pb i) hpi (fun hb => ?_) (fun hb => ⟨hiv, pk_eq (ov_kd e i) 0 (fun h0 => ?_) (fun h0 => ?_) (ov_AV (by omega)) rfl (by omega) (by omega)⟩)⟩)
    · refine ⟨hiv, ov_pc (b := pb i) hpi (fun _ => nm_r (nI_1 _) ?_) (fun z => by rw [hb] at z; exact absurd z Bool.false_ne_true)⟩
      rw [ov_P1s (ov_b_1 (by omega) (fun z => by rw [hb] at z; exact absurd z Bool.false_ne_true))] at hk'
      exact hk'
    · refine nm_r (e' := nI (ov_P (ov_b e pb ov_4) (i + 1))) ?_ ⟨hiv, ov_pc (b := pb i) hpi (fun z => by rw [hb] at z; exact absurd z.symm Bool.false_ne_true) (fun _ => ⟨hiv, pk_eq (ov_kd e i) 3 (fun z => absurd z (by omega)) (fun _ => nm_r (nI_1 _) hk') (ov_AV (by omega)) rfl (by omega) (by omega)⟩)⟩
      rw [hPs, ov_b_0 (by omega) hb h0]
      exact pk_mul _ 3
    · refine ⟨hiv, ov_pc (b := pb i) hpi (fun z => by rw [hb] at z; exact absurd z.symm Bool.false_ne_true) (fun _ => ⟨hiv, pk_eq (ov_kd e i) 3 (fun h3 => ?_) (fun h3 => ?_) (ov_AV (by omega)) rfl (by omega) (by omega)⟩)⟩
      · refine nm_r (e' := nI (ov_P (ov_b e pb ov_4) (i + 1))) ?_ (nm_r (nI_1 _) hk')
        rw [hPs, ov_b_3 (by omega) hb h3]
        exact pk_mul _ 4
      · rw [ov_P1s (ov_b_1 (by omega) (fun _ => by omega))] at hk'
        exact nm_r (nI_1 _) hk'
theorem oy_mark_32 (hw : ov_W e) {node : Nat} (hn : node < ov_nc e) {post : SY → Prop} (hq : ∀ n, n < ov_nc e → ov_kd e n = 3 → yq n = nI (ov_lf e n) ∧ yr n = nI (ov_rt e n)) (h : ∀ s', (∀ j, j < 12 → s' j = ov_bI (ov_pb e node j)) → post (nI (ov_nc e), nI (ov_P (ov_b e (ov_pb e node) ov_4) 14), fi, le, be, bo, sa, ov_C (ov_cv e), ov_A (ov_hd e), ov_A (ov_s9 e), ov_A (ov_s3 e), ov_A (ov_s1 e), ov_A (ov_sc e), ov_A (ov_vs e), ov_A (ov_lt e), ov_A (ov_kd e), ov_A (ov_ct e), yq, yr, tk, s', pq, pv, yt)) : ∀ (m : Nat) (s : Nat → Int32) (f : Nat → Bool), m ≤ ov_nc e → (∀ j, j < 12 → s j = ov_bI (f j)) → ov_mk e m f = ov_pb e node → wY_mark_32 post (nI (ov_nc e)) to fi le be bo sa (m + 1) (nI m + (-1)) (ov_C (ov_cv e)) (ov_A (ov_hd e)) (ov_A (ov_s9 e)) (ov_A (ov_s3 e)) (ov_A (ov_s1 e)) (ov_A (ov_sc e)) (ov_A (ov_vs e)) (ov_A (ov_lt e)) (ov_A (ov_kd e)) (ov_A (ov_ct e)) yq yr tk s pq pv yt := by
  have h12 := hw.1
  intro m
  induction m with
  | zero =>
    intro s f _ hs he
    have he' : f = ov_pb e node := he
    subst he'
    exact br_t (by decide) (oy_mark_92 hw ⟨hn, ov_pb_pi hw hn⟩ hs (h s hs))
  | succ m ih =>
    intro s f hm hs he
    rw [pk_m1]
    have hi : vp_in (nI m) 12 := vp_in_nI (by omega) (by omega)
    have hN := hw.2.2.2.2.2.2.2.2.1 m (by omega)
    refine br_f (nI_pos (by omega)) ⟨hi, ov_pc (b := f m) (by rw [nI_clamp (by omega)]; exact hs m (by omega)) (fun hf => ?_) (fun hf => ⟨hi, pk_eq (ov_kd e m) 3 (fun h3 => ?_) (fun h3 => ?_) (ov_AV (by omega)) rfl (by have := hN.1; omega) (by omega)⟩)⟩
    · have hmk : ov_mk e (m + 1) f = ov_mk e m f := by
        show ov_mk e m (if f m = true ∧ ov_kd e m = 3 then _ else f) = _
        rw [if_neg (fun z => by rw [hf] at z; exact Bool.false_ne_true z.1)]
      exact nm_e (ih s f (by omega) hs (hmk ▸ he))
    · have hmk : ov_mk e (m + 1) f = ov_mk e m (ov_u (ov_u f (ov_lf e m) true) (ov_rt e m) true) := by
        show ov_mk e m (if f m = true ∧ ov_kd e m = 3 then _ else f) = _
        rw [if_pos ⟨hf, h3⟩]
      obtain ⟨_, hl, hr⟩ := hN.2.2.2 h3
      have ql : yq (nI m).toNatClampNeg = nI (ov_lf e m) := by rw [nI_clamp (by omega)]; exact (hq m (by omega) h3).1
      have qr : yr (nI m).toNatClampNeg = nI (ov_rt e m) := by rw [nI_clamp (by omega)]; exact (hq m (by omega) h3).2
      have il : vp_in (yq (nI m).toNatClampNeg) 12 := by rw [ql]; exact vp_in_nI (by omega) (by omega)
      have ir : vp_in (yr (nI m).toNatClampNeg) 12 := by rw [qr]; exact vp_in_nI (by omega) (by omega)
      refine ⟨hi, il, nm_r (e' := upd s (ov_lf e m) 1) (by rw [ql, nI_clamp (by omega), ov_nb1]) ⟨hi, ir, nm_r (e' := upd (upd s (ov_lf e m) 1) (ov_rt e m) 1) (by rw [qr, nI_clamp (by omega), ov_nb1]) (nm_e (ih _ _ (by omega) ?_ (hmk ▸ he)))⟩⟩
      exact ov_up2 (ov_up2 (g := ov_u f (ov_lf e m) true) hs (by rw [ov_us]; rfl) (fun j hj => ov_un hj)) (by rw [ov_us]; rfl) (fun j hj => ov_un hj)
    · have hmk : ov_mk e (m + 1) f = ov_mk e m f := by
        show ov_mk e m (if f m = true ∧ ov_kd e m = 3 then _ else f) = _
        rw [if_neg (fun z => h3 z.2)]
      exact nm_e (ih s f (by omega) hs (hmk ▸ he))
theorem oy_mark (hw : ov_W e) {node : Nat} (hn : node < ov_nc e) (hq : ∀ n, n < ov_nc e → ov_kd e n = 3 → yq n = nI (ov_lf e n) ∧ yr n = nI (ov_rt e n)) {post : SY → Prop} (h : ∀ s', (∀ j, j < 12 → s' j = ov_bI (ov_pb e node j)) → post (nI (ov_nc e), nI (ov_P (ov_b e (ov_pb e node) ov_4) 14), fi, le, be, bo, sa, ov_C (ov_cv e), ov_A (ov_hd e), ov_A (ov_s9 e), ov_A (ov_s3 e), ov_A (ov_s1 e), ov_A (ov_sc e), ov_A (ov_vs e), ov_A (ov_lt e), ov_A (ov_kd e), ov_A (ov_ct e), yq, yr, tk, s', pq, pv, yt)) : wpY_mark post (nI (ov_nc e), to, fi, le, be, bo, sa, ov_C (ov_cv e), ov_A (ov_hd e), ov_A (ov_s9 e), ov_A (ov_s3 e), ov_A (ov_s1 e), ov_A (ov_sc e), ov_A (ov_vs e), ov_A (ov_lt e), ov_A (ov_kd e), ov_A (ov_ct e), yq, yr, tk, pa, pq, pv, yt) (nI node) := by
  have h12 := hw.1
  refine loop_0 (fun n i s => wY_mark_2 post (nI node) (nI (ov_nc e)) to fi le be bo sa n (nI i) (ov_C (ov_cv e)) (ov_A (ov_hd e)) (ov_A (ov_s9 e)) (ov_A (ov_s3 e)) (ov_A (ov_s1 e)) (ov_A (ov_sc e)) (ov_A (ov_vs e)) (ov_A (ov_lt e)) (ov_A (ov_kd e)) (ov_A (ov_ct e)) yq yr tk s pq pv yt) (fun i s => ∀ j, j < i → s j = ov_bI (decide (j = node))) 12 pa (fun j hj => absurd hj (by omega)) (fun n s hI => ?_) (fun n i s hi hI hk => ?_)
  · refine br_t (nI_le (a := 12) (Nat.le_refl _) (by omega)) ⟨node + 1 + 1, ?_⟩
    have := oy_mark_32 (to := to) hw hn (post := post) hq h (node + 1) s _ (by omega) hI rfl
    rw [pk_m1] at this
    exact this
  · have hv : vp_in (nI i) 12 := vp_in_nI hi (by omega)
    refine br_f (nI_ge (b := 12) hi (by omega)) (pk_eq i node (fun h1 => ?_) (fun h1 => ?_))
    · exact ⟨hv, nm_r (e' := upd s i 1) (by rw [nI_clamp (by omega), ov_nb1]) (nm_r (nI_1 _) (hk _ (ov_up hI (by rw [decide_eq_true h1]; rfl))))⟩
    · exact ⟨hv, nm_r (e' := upd s i 0) (by rw [nI_clamp (by omega), ov_nb0]) (nm_r (nI_1 _) (hk _ (ov_up hI (by rw [decide_eq_false h1]; rfl))))⟩
end
