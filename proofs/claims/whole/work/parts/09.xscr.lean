/-! X: the parts, the options, the counter -/
def ov_bI (b : Bool) : Int32 := if b = true then 1 else 0
theorem ov_pc {A B : Prop} {x : Int32} {b : Bool} (hx : x = ov_bI b) (f : b = false → A) (g : b = true → B) : (x = 0 → A) ∧ (¬ x = 0 → B) := by
  subst hx
  cases b with
  | false => exact br_t rfl (f rfl)
  | true => exact br_f ov_10 (g rfl)
theorem ov_up {s : Nat → Int32} {f : Nat → Int32} {i : Nat} {x : Int32} (h : ∀ j, j < i → s j = f j) (hx : x = f i) : ∀ j, j < i + 1 → upd s i x j = f j := fun j hj => by
  by_cases hi : j = i
  · subst hi; rw [pk_us]; exact hx
  · rw [pk_un hi]; exact h j (by omega)
theorem ov_up2 {s : Nat → Int32} {f g : Nat → Bool} {i : Nat} {x : Int32} {N : Nat} (h : ∀ j, j < N → s j = ov_bI (f j)) (hx : x = ov_bI (g i)) (hg : ∀ j, j ≠ i → g j = f j) : ∀ j, j < N → upd s i x j = ov_bI (g j) := fun j hj => by
  by_cases hi : j = i
  · subst hi; rw [pk_us]; exact hx
  · rw [pk_un hi, hg j hi]; exact h j hj
section
variable {e : ov_E} {tk pt op ch ty hs bc bt : Nat → Int32} {so lo : Int32}
theorem ox_mark_32 (hw : ov_W e) {post : SX → Prop} : ∀ (m : Nat) (s : Nat → Int32) (f : Nat → Bool), m ≤ ov_nc e → (∀ j, j < 12 → s j = ov_bI (f j)) → (∀ s', (∀ j, j < 12 → s' j = ov_bI (ov_mk e m f j)) → post (nI (ov_nc e), nI (ov_ac e), so, lo, ov_C (ov_cv e), ov_A (ov_st e), ov_A (ov_sc e), ov_A (ov_hd e), ov_A (ov_vs e), ov_A (ov_lt e), ov_A (ov_kd e), ov_A (ov_ct e), ov_A (ov_lf e), ov_A (ov_rt e), tk, s', op, ch, ty, hs, bc, bt)) → wX_markParts_32 post (nI (ov_nc e)) (nI (ov_ac e)) so lo (m + 1) (nI m + (-1)) (ov_C (ov_cv e)) (ov_A (ov_st e)) (ov_A (ov_sc e)) (ov_A (ov_hd e)) (ov_A (ov_vs e)) (ov_A (ov_lt e)) (ov_A (ov_kd e)) (ov_A (ov_ct e)) (ov_A (ov_lf e)) (ov_A (ov_rt e)) tk s op ch ty hs bc bt := by
  have h12 := hw.1
  intro m
  induction m with
  | zero =>
    intro s f _ hs h
    exact br_t (by decide) (h s hs)
  | succ m ih =>
    intro s f hm hs h
    rw [pk_m1]
    have hi : vp_in (nI m) 12 := vp_in_nI (by omega) (by omega)
    have hN := hw.2.2.2.2.2.2.2.2.1 m (by omega)
    refine br_f (nI_pos (by omega)) ⟨hi, ov_pc (b := f m) (by rw [nI_clamp (by omega)]; exact hs m (by omega)) (fun hf => ?_) (fun hf => ⟨hi, pk_eq (ov_kd e m) 3 (fun h3 => ?_) (fun h3 => ?_) (ov_AV (by omega)) rfl (by have := hN.1; omega) (by omega)⟩)⟩
    · have hmk : ov_mk e (m + 1) f = ov_mk e m f := by
        show ov_mk e m (if f m = true ∧ ov_kd e m = 3 then _ else f) = _
        rw [if_neg (fun z => by rw [hf] at z; exact Bool.false_ne_true z.1)]
      rw [hmk] at h
      exact nm_e (ih s f (by omega) hs h)
    · have hmk : ov_mk e (m + 1) f = ov_mk e m (ov_u (ov_u f (ov_lf e m) true) (ov_rt e m) true) := by
        show ov_mk e m (if f m = true ∧ ov_kd e m = 3 then _ else f) = _
        rw [if_pos ⟨hf, h3⟩]
      rw [hmk] at h
      obtain ⟨_, hl, hr⟩ := hN.2.2.2 h3
      have il : vp_in (ov_A (ov_lf e) (nI m).toNatClampNeg) 12 := by rw [ov_AV (by omega)]; exact vp_in_nI (by omega) (by omega)
      have ir : vp_in (ov_A (ov_rt e) (nI m).toNatClampNeg) 12 := by rw [ov_AV (by omega)]; exact vp_in_nI (by omega) (by omega)
      refine ⟨hi, il, nm_r (e' := upd s (ov_lf e m) 1) (by rw [ov_AV (by omega), nI_clamp (by omega), ov_nb1]) ⟨hi, ir, nm_r (e' := upd (upd s (ov_lf e m) 1) (ov_rt e m) 1) (by rw [ov_AV (by omega), nI_clamp (by omega), ov_nb1]) (nm_e (ih _ _ (by omega) ?_ h))⟩⟩
      exact ov_up2 (ov_up2 (g := ov_u f (ov_lf e m) true) hs (by rw [ov_us]; rfl) (fun j hj => ov_un hj)) (by rw [ov_us]; rfl) (fun j hj => ov_un hj)
    · have hmk : ov_mk e (m + 1) f = ov_mk e m f := by
        show ov_mk e m (if f m = true ∧ ov_kd e m = 3 then _ else f) = _
        rw [if_neg (fun z => h3 z.2)]
      rw [hmk] at h
      exact nm_e (ih s f (by omega) hs h)
theorem ox_mark (hw : ov_W e) {node : Nat} (hn : node < ov_nc e) {post : SX → Prop} (h : ∀ s', (∀ j, j < 12 → s' j = ov_bI (ov_pb e node j)) → post (nI (ov_nc e), nI (ov_ac e), so, lo, ov_C (ov_cv e), ov_A (ov_st e), ov_A (ov_sc e), ov_A (ov_hd e), ov_A (ov_vs e), ov_A (ov_lt e), ov_A (ov_kd e), ov_A (ov_ct e), ov_A (ov_lf e), ov_A (ov_rt e), tk, s', op, ch, ty, hs, bc, bt)) : wpX_markParts post (nI (ov_nc e), nI (ov_ac e), so, lo, ov_C (ov_cv e), ov_A (ov_st e), ov_A (ov_sc e), ov_A (ov_hd e), ov_A (ov_vs e), ov_A (ov_lt e), ov_A (ov_kd e), ov_A (ov_ct e), ov_A (ov_lf e), ov_A (ov_rt e), tk, pt, op, ch, ty, hs, bc, bt) (nI node) := by
  have h12 := hw.1
  refine loop_0 (fun n i s => wX_markParts_2 post (nI node) (nI (ov_nc e)) (nI (ov_ac e)) so lo n (nI i) (ov_C (ov_cv e)) (ov_A (ov_st e)) (ov_A (ov_sc e)) (ov_A (ov_hd e)) (ov_A (ov_vs e)) (ov_A (ov_lt e)) (ov_A (ov_kd e)) (ov_A (ov_ct e)) (ov_A (ov_lf e)) (ov_A (ov_rt e)) tk s op ch ty hs bc bt) (fun i s => ∀ j, j < i → s j = ov_bI (decide (j = node))) 12 pt (fun j hj => absurd hj (by omega)) (fun n s hI => ?_) (fun n i s hi hI hk => ?_)
  · refine br_t (nI_le (a := 12) (Nat.le_refl _) (by omega)) ⟨node + 1 + 1, ?_⟩
    have := ox_mark_32 (tk := tk) (op := op) (ch := ch) (ty := ty) (hs := hs) (bc := bc) (bt := bt) (so := so) (lo := lo) hw (post := post) (node + 1) s _ (by omega) hI h
    rw [pk_m1] at this
    exact this
  · have hv : vp_in (nI i) 12 := vp_in_nI hi (by omega)
    refine br_f (nI_ge (b := 12) hi (by omega)) (pk_eq i node (fun h1 => ?_) (fun h1 => ?_))
    · exact ⟨hv, nm_r (e' := upd s i 1) (by rw [nI_clamp (by omega), ov_nb1]) (nm_r (nI_1 _) (hk _ (ov_up hI (by rw [decide_eq_true h1]; rfl))))⟩
    · exact ⟨hv, nm_r (e' := upd s i 0) (by rw [nI_clamp (by omega), ov_nb0]) (nm_r (nI_1 _) (hk _ (ov_up hI (by rw [decide_eq_false h1]; rfl))))⟩
end
def ov_bi (e : ov_E) (pb : Nat → Bool) (i j : Nat) : Nat := if j < 12 then (if j < i then ov_b e pb (ov_hc e) j else 1) else if ov_nm e pb (j - 12) i = true then 3 else 1
theorem ov_bi_12 {e : ov_E} {pb : Nat → Bool} {j : Nat} : ov_bi e pb 12 j = ov_b e pb (ov_hc e) j := by
  unfold ov_bi
  by_cases h : j < 12
  · rw [if_pos h, if_pos h]
  · rw [if_neg h]; unfold ov_b; rw [if_neg h]
theorem ov_bi_0 {e : ov_E} {pb : Nat → Bool} {j : Nat} : ov_bi e pb 0 j = 1 := by
  unfold ov_bi
  by_cases h : j < 12
  · rw [if_pos h, if_neg (by omega)]
  · rw [if_neg h]; exact if_neg Bool.false_ne_true
theorem ov_bi_lo {e : ov_E} {pb : Nat → Bool} {i j : Nat} (hj : j < 12) (h : j ≠ i) : ov_bi e pb (i + 1) j = ov_bi e pb i j := by
  unfold ov_bi
  rw [if_pos hj, if_pos hj]
  by_cases h1 : j < i
  · rw [if_pos h1, if_pos (by omega)]
  · rw [if_neg h1, if_neg (by omega)]
theorem ov_bi_i {e : ov_E} {pb : Nat → Bool} {i : Nat} (hi : i < 12) : ov_bi e pb (i + 1) i = ov_b e pb (ov_hc e) i ∧ ov_bi e pb i i = 1 := by
  unfold ov_bi
  rw [if_pos hi, if_pos hi, if_pos (by omega), if_neg (by omega)]
  exact ⟨rfl, rfl⟩
theorem ov_nm_skip {e : ov_E} {pb : Nat → Bool} {v i : Nat} (h : ¬ (pb i = true ∧ ov_kd e i = 1 ∧ ov_ct e i = v)) : ov_nm e pb v (i + 1) = ov_nm e pb v i := by
  show (ov_nm e pb v i || (pb i && decide (ov_kd e i = 1) && decide (ov_ct e i = v))) = _
  cases h1 : pb i with
  | false => rw [Bool.false_and, Bool.false_and, Bool.or_false]
  | true =>
    by_cases h2 : ov_kd e i = 1
    · rw [decide_eq_false (fun h3 => h ⟨h1, h2, h3⟩), Bool.and_false, Bool.or_false]
    · rw [decide_eq_false h2, Bool.and_false, Bool.false_and, Bool.or_false]
theorem ov_bi_hi {e : ov_E} {pb : Nat → Bool} {i j : Nat} (hj : ¬ j < 12) (h : ¬ (pb i = true ∧ ov_kd e i = 1 ∧ j = 12 + ov_ct e i)) : ov_bi e pb (i + 1) j = ov_bi e pb i j := by
  unfold ov_bi
  rw [if_neg hj, if_neg hj, ov_nm_skip (fun z => h ⟨z.1, z.2.1, by omega⟩)]
theorem ov_bi_same {e : ov_E} {pb : Nat → Bool} {i : Nat} (hi : i < 12) (hb : ov_b e pb (ov_hc e) i = 1) (hk : ¬ (pb i = true ∧ ov_kd e i = 1)) (j : Nat) : ov_bi e pb (i + 1) j = ov_bi e pb i j := by
  by_cases hj : j < 12
  · by_cases h : j = i
    · subst h; rw [(ov_bi_i hi).1, (ov_bi_i hi).2, hb]
    · exact ov_bi_lo hj h
  · exact ov_bi_hi hj (fun z => hk ⟨z.1, z.2.1⟩)
section
variable {e : ov_E} {tk pt op ch ty hs bc bt : Nat → Int32} {so lo : Int32}
theorem ox_sop (hw : ov_W e) {pb : Nat → Bool} {i : Nat} (hi : i < 12) (hn : i < ov_nc e) (hb : pb i = true) {s : Nat → Int32} (hs : ∀ j, j < 14 → s j = nI (ov_bi e pb i j)) {hs' : Nat → Int32} {post : SX → Prop} (h : ∀ s', (∀ j, j < 14 → s' j = nI (ov_bi e pb (i + 1) j)) → post (nI (ov_nc e), nI (ov_ac e), so, lo, ov_C (ov_cv e), ov_A (ov_st e), ov_A (ov_sc e), ov_A (ov_hd e), ov_A (ov_vs e), ov_A (ov_lt e), ov_A (ov_kd e), ov_A (ov_ct e), ov_A (ov_lf e), ov_A (ov_rt e), tk, pt, s', ch, ty, hs', bc, bt)) : wpX_setOptionsOfPart post (nI (ov_nc e), nI (ov_ac e), so, lo, ov_C (ov_cv e), ov_A (ov_st e), ov_A (ov_sc e), ov_A (ov_hd e), ov_A (ov_vs e), ov_A (ov_lt e), ov_A (ov_kd e), ov_A (ov_ct e), ov_A (ov_lf e), ov_A (ov_rt e), tk, pt, s, ch, ty, hs', bc, bt) (nI i) := by
  have hN := hw.2.2.2.2.2.2.2.2.1 i hn
  have hv : vp_in (nI i) 12 := vp_in_nI hi (by omega)
  have hv' : vp_in (nI i) 14 := vp_in_nI (by omega) (by omega)
  have hk3 := hN.1
  refine ⟨hv, nm_r (ov_AV (by omega)) (br_f (nI_pos (by omega)) (br_f (nI_nlt (b := ov_kd e i) (a := 3) hk3 (by omega)) ?_))⟩
  refine pk_eq (ov_kd e i) 0 (fun h0 => ?_) (fun h0 => pk_eq (ov_kd e i) 1 (fun h1 => ?_) (fun h1 => pk_eq (ov_kd e i) 2 (fun h2 => ?_) (fun h2 => pk_eq (ov_kd e i) 3 (fun h3 => ?_) (fun h3 => trivial))))
  · refine ⟨hv', nm_r (e' := upd s i 3) (by rw [nI_clamp (by omega)]) (h _ (fun j hj => ?_))⟩
    by_cases hji : j = i
    · subst hji; rw [pk_us, (ov_bi_i hi).1, ov_b_0 hi hb h0]; rfl
    · rw [pk_un hji, hs j hj]
      by_cases hj12 : j < 12
      · rw [ov_bi_lo hj12 hji]
      · rw [ov_bi_hi hj12 (fun z => by omega)]
  · have hc := hN.2.1 h1
    refine ⟨hv, ?_⟩
    rw [ov_AV (by omega), ov_ix12]
    refine ⟨vp_in_nI (by omega) (by omega), nm_r (e' := upd s (12 + ov_ct e i) 3) (by rw [nI_clamp (by omega)]) (h _ (fun j hj => ?_))⟩
    by_cases hji : j = 12 + ov_ct e i
    · subst hji
      rw [pk_us]
      unfold ov_bi
      rw [if_neg (by omega), show 12 + ov_ct e i - 12 = ov_ct e i by omega, if_pos (ov_nm_of hb h1 (i + 1) (by omega))]; rfl
    · rw [pk_un hji, hs j hj]
      by_cases hj12 : j < 12
      · by_cases hj' : j = i
        · subst hj'; rw [(ov_bi_i hi).1, (ov_bi_i hi).2, ov_b_1 hi (fun _ => Or.inl h1)]
        · rw [ov_bi_lo hj12 hj']
      · rw [ov_bi_hi hj12 (fun z => hji z.2.2)]
  · refine h _ (fun j hj => ?_)
    rw [hs j hj, ov_bi_same hi (ov_b_1 hi (fun _ => Or.inr h2)) (fun z => by omega)]
  · have hc := (hN.2.2.2 h3).1
    refine ⟨hv, ?_⟩
    rw [ov_AV (by omega), ov_AV (by omega)]
    refine ⟨vp_in_nI (by omega) (by omega), hv', nm_r (e' := upd s i (nI (ov_hd e (ov_ct e i)))) (by rw [nI_clamp (by omega)]) (h _ (fun j hj => ?_))⟩
    by_cases hji : j = i
    · subst hji; rw [pk_us, (ov_bi_i hi).1, ov_b_3 hi hb h3]; rfl
    · rw [pk_un hji, hs j hj]
      by_cases hj12 : j < 12
      · rw [ov_bi_lo hj12 hji]
      · rw [ov_bi_hi hj12 (fun z => by omega)]
theorem ox_setOptions (hw : ov_W e) {pb : Nat → Bool} {node : Nat} (hp : ov_P1 e pb node) (hpt : ∀ j, j < 12 → pt j = ov_bI (pb j)) {post : SX → Prop} (h : ∀ o c, (∀ j, j < 14 → o j = nI (ov_b e pb (ov_hc e) j)) → (∀ j, j < 14 → c j = 0) → post (nI (ov_nc e), nI (ov_ac e), so, lo, ov_C (ov_cv e), ov_A (ov_st e), ov_A (ov_sc e), ov_A (ov_hd e), ov_A (ov_vs e), ov_A (ov_lt e), ov_A (ov_kd e), ov_A (ov_ct e), ov_A (ov_lf e), ov_A (ov_rt e), tk, pt, o, c, ty, hs, bc, bt)) : wpX_setOptions post (nI (ov_nc e), nI (ov_ac e), so, lo, ov_C (ov_cv e), ov_A (ov_st e), ov_A (ov_sc e), ov_A (ov_hd e), ov_A (ov_vs e), ov_A (ov_lt e), ov_A (ov_kd e), ov_A (ov_ct e), ov_A (ov_lf e), ov_A (ov_rt e), tk, pt, op, ch, ty, hs, bc, bt) := by
  refine loop_0 (fun n i s => wX_setOptions_2 post (nI (ov_nc e)) (nI (ov_ac e)) so lo n (nI i) (ov_C (ov_cv e)) (ov_A (ov_st e)) (ov_A (ov_sc e)) (ov_A (ov_hd e)) (ov_A (ov_vs e)) (ov_A (ov_lt e)) (ov_A (ov_kd e)) (ov_A (ov_ct e)) (ov_A (ov_lf e)) (ov_A (ov_rt e)) tk pt s.1 s.2 ty hs bc bt) (fun i s => (∀ j, j < i → s.1 j = 1) ∧ (∀ j, j < i → s.2 j = 0)) 14 (op, ch) ⟨fun j hj => absurd hj (by omega), fun j hj => absurd hj (by omega)⟩ (fun n s hI => ?_) (fun n i s hi hI hk => ?_)
  · refine br_t (nI_le (a := 14) (Nat.le_refl _) (by omega)) ?_
    refine loop_0 (fun n i o => wX_setOptions_30 post n (nI i) (nI (ov_nc e)) (nI (ov_ac e)) so lo (ov_C (ov_cv e)) (ov_A (ov_st e)) (ov_A (ov_sc e)) (ov_A (ov_hd e)) (ov_A (ov_vs e)) (ov_A (ov_lt e)) (ov_A (ov_kd e)) (ov_A (ov_ct e)) (ov_A (ov_lf e)) (ov_A (ov_rt e)) tk pt o s.2 ty hs bc bt) (fun i o => ∀ j, j < 14 → o j = nI (ov_bi e pb i j)) 12 s.1 (fun j hj => by rw [hI.1 j hj, ov_bi_0]; rfl) (fun n o hO => ?_) (fun n i o hi hO hk => ?_)
    · exact br_t (nI_le (a := 12) (Nat.le_refl _) (by omega)) (h o s.2 (fun j hj => by rw [hO j hj, ov_bi_12]) hI.2)
    · refine br_f (nI_ge (b := 12) hi (by omega)) ⟨vp_in_nI hi (by omega), ov_pc (b := pb i) (by rw [nI_clamp (by omega)]; exact hpt i hi) (fun hb => ?_) (fun hb => ?_)⟩
      · refine nm_r (nI_1 _) (hk o (fun j hj => ?_))
        rw [hO j hj, ov_bi_same hi (ov_b_1 hi (fun z => by rw [hb] at z; exact absurd z Bool.false_ne_true)) (fun z => by rw [hb] at z; exact Bool.false_ne_true z.1)]
      · have hn : i < ov_nc e := by have := hp.2.1 i hb; have := hp.1; omega
        exact ox_sop hw hi hn hb hO (fun o' ho' => nm_r (nI_1 _) (hk o' ho'))
  · have hv : vp_in (nI i) 14 := vp_in_nI hi (by omega)
    refine br_f (nI_ge (b := 14) hi (by omega)) ⟨hv, nm_r (e' := upd s.1 i 1) (by rw [nI_clamp (by omega)]) ⟨hv, nm_r (e' := upd s.2 i 0) (by rw [nI_clamp (by omega)]) (nm_r (nI_1 _) (hk (_, _) ⟨ov_up (f := fun _ => 1) hI.1 rfl, ov_up (f := fun _ => 0) hI.2 rfl⟩))⟩⟩
theorem ox_forgetSolutions {post : SX → Prop} (h : ∀ s, (∀ j, j < 127 → s j = 0) → post (nI (ov_nc e), nI (ov_ac e), 0, -1, ov_C (ov_cv e), ov_A (ov_st e), ov_A (ov_sc e), ov_A (ov_hd e), ov_A (ov_vs e), ov_A (ov_lt e), ov_A (ov_kd e), ov_A (ov_ct e), ov_A (ov_lf e), ov_A (ov_rt e), tk, pt, op, ch, ty, s, bc, bt)) : wpX_forgetSolutions post (nI (ov_nc e), nI (ov_ac e), so, lo, ov_C (ov_cv e), ov_A (ov_st e), ov_A (ov_sc e), ov_A (ov_hd e), ov_A (ov_vs e), ov_A (ov_lt e), ov_A (ov_kd e), ov_A (ov_ct e), ov_A (ov_lf e), ov_A (ov_rt e), tk, pt, op, ch, ty, hs, bc, bt) := by
  refine loop_0 (fun n i s => wX_forgetSolutions_2 post (nI (ov_nc e)) (nI (ov_ac e)) so lo n (nI i) (ov_C (ov_cv e)) (ov_A (ov_st e)) (ov_A (ov_sc e)) (ov_A (ov_hd e)) (ov_A (ov_vs e)) (ov_A (ov_lt e)) (ov_A (ov_kd e)) (ov_A (ov_ct e)) (ov_A (ov_lf e)) (ov_A (ov_rt e)) tk pt op ch ty s bc bt) (fun i s => ∀ j, j < i → s j = 0) 127 hs (fun j hj => absurd hj (by omega)) (fun n s hI => ?_) (fun n i s hi hI hk => ?_)
  · exact br_t (nI_le (a := 127) (Nat.le_refl _) (by omega)) (h s hI)
  · exact br_f (nI_ge (b := 127) hi (by omega)) ⟨vp_in_nI hi (by omega), nm_r (e' := upd s i 0) (by rw [nI_clamp (by omega)]) (nm_r (nI_1 _) (hk _ (ov_up (f := fun _ => 0) hI rfl)))⟩
theorem ox_waysToChoose {b : Nat → Nat} (ho : ∀ j, j < 14 → op j = nI (b j)) {post : Int32 → Prop} (h : post (nI (ov_P b 14))) : wpX_waysToChoose post (nI (ov_nc e), nI (ov_ac e), so, lo, ov_C (ov_cv e), ov_A (ov_st e), ov_A (ov_sc e), ov_A (ov_hd e), ov_A (ov_vs e), ov_A (ov_lt e), ov_A (ov_kd e), ov_A (ov_ct e), ov_A (ov_lf e), ov_A (ov_rt e), tk, pt, op, ch, ty, hs, bc, bt) := by
  refine loop_0 (fun n i (_ : Unit) => wX_waysToChoose_4 post (nI (ov_nc e)) (nI (ov_ac e)) so lo (ov_C (ov_cv e)) (ov_A (ov_st e)) (ov_A (ov_sc e)) (ov_A (ov_hd e)) (ov_A (ov_vs e)) (ov_A (ov_lt e)) (ov_A (ov_kd e)) (ov_A (ov_ct e)) (ov_A (ov_lf e)) (ov_A (ov_rt e)) tk pt op ch ty hs bc bt n (nI (ov_P b i)) (nI i)) (fun _ _ => True) 14 () trivial (fun n s _ => ?_) (fun n i s hi _ hk => ?_)
  · exact br_t (nI_le (a := 14) (Nat.le_refl _) (by omega)) h
  · exact br_f (nI_ge (b := 14) hi (by omega)) ⟨vp_in_nI hi (by omega), nm_r (e' := nI (ov_P b (i + 1))) (by rw [nI_clamp (by omega), ho i hi, pk_mul]; rfl) (nm_r (nI_1 _) (hk () trivial))⟩
theorem ox_nextChoices {b : Nat → Nat} (hb4 : ∀ j, b j ≤ 4) (ho : ∀ j, j < 14 → op j = nI (b j)) {w : Nat} (hw : w < ov_P b 14) (hc : ∀ j, j < 14 → ch j = nI (ov_dg b w j)) {post : SX → Prop} (h : ∀ c, (∀ j, j < 14 → c j = nI (ov_dg b (w + 1) j)) → post (nI (ov_nc e), nI (ov_ac e), so, lo, ov_C (ov_cv e), ov_A (ov_st e), ov_A (ov_sc e), ov_A (ov_hd e), ov_A (ov_vs e), ov_A (ov_lt e), ov_A (ov_kd e), ov_A (ov_ct e), ov_A (ov_lf e), ov_A (ov_rt e), tk, pt, op, c, ty, hs, bc, bt)) : wpX_nextChoices post (nI (ov_nc e), nI (ov_ac e), so, lo, ov_C (ov_cv e), ov_A (ov_st e), ov_A (ov_sc e), ov_A (ov_hd e), ov_A (ov_vs e), ov_A (ov_lt e), ov_A (ov_kd e), ov_A (ov_ct e), ov_A (ov_lf e), ov_A (ov_rt e), tk, pt, op, ch, ty, hs, bc, bt) := by
  refine loop_0 (fun n i s => wX_nextChoices_2 post (nI (ov_nc e)) (nI (ov_ac e)) so lo n (nI i) (ov_C (ov_cv e)) (ov_A (ov_st e)) (ov_A (ov_sc e)) (ov_A (ov_hd e)) (ov_A (ov_vs e)) (ov_A (ov_lt e)) (ov_A (ov_kd e)) (ov_A (ov_ct e)) (ov_A (ov_lf e)) (ov_A (ov_rt e)) tk pt op s ty hs bc bt) (fun i s => ov_P b i ∣ w + 1 ∧ ∀ j, j < 14 → s j = nI (if j < i then 0 else ov_dg b w j)) 14 ch ⟨Nat.one_dvd _, fun j hj => by rw [if_neg (by omega)]; exact hc j hj⟩ (fun n s hI => ?_) (fun n i s hi hI hk => ?_)
  · refine br_t (nI_le (a := 14) (Nat.le_refl _) (by omega)) (h s (fun j hj => ?_))
    rw [hI.2 j hj, if_pos hj, ov_nx0 (ov_P_pos (Nat.le_of_lt hj) (by omega)) (Nat.dvd_trans (ov_P_dvd2 (show j + 1 ≤ 14 from hj)) hI.1)]
  · have hv : vp_in (nI i) 14 := vp_in_nI hi (by omega)
    have hp : 0 < ov_P b i := ov_P_pos (Nat.le_of_lt hi) (by omega)
    have hbi : 0 < b i := ov_b_pos hi (by omega)
    have hd := ov_dg_lt hw hi
    have h4 := hb4 i
    have hsi : s i = nI (ov_dg b w i) := by rw [hI.2 i hi, if_neg (by omega)]
    refine br_f (nI_ge (b := 14) hi (by omega)) ⟨hv, hv, nm_r (e' := upd s i (nI (ov_dg b w i + 1))) (by rw [nI_clamp (by omega), hsi, nI_1]) ⟨hv, hv, ?_⟩⟩
    refine pk_le (b i) (ov_dg b w i + 1) (fun hge => ?_) (fun hlt => ?_) (by rw [nI_clamp (by omega)]; exact ho i hi) (by rw [nI_clamp (by omega), pk_us]) (by omega) (by omega)
    · refine ⟨hv, nm_r (e' := upd (upd s i (nI (ov_dg b w i + 1))) i 0) (by rw [nI_clamp (by omega)]) (nm_r (nI_1 _) (hk _ ⟨ov_nx1 hp hbi hI.1 hge, fun j hj => ?_⟩))⟩
      by_cases hji : j = i
      · subst hji; rw [pk_us, if_pos (by omega)]; rfl
      · rw [pk_un hji, pk_un hji, hI.2 j hj]
        by_cases h1 : j < i
        · rw [if_pos h1, if_pos (by omega)]
        · rw [if_neg h1, if_neg (by omega)]
    · refine h _ (fun j hj => ?_)
      by_cases hji : j = i
      · subst hji; rw [pk_us, ov_nx2 hp hI.1 hlt]
      · rw [pk_un hji, hI.2 j hj]
        by_cases h1 : j < i
        · rw [if_pos h1, ov_nx0 (ov_P_pos (Nat.le_of_lt hj) (by omega)) (Nat.dvd_trans (ov_P_dvd2 (show j + 1 ≤ i from h1)) hI.1)]
        · rw [if_neg h1, ov_nx3 hp hI.1 hlt (by omega)]
end
