/-! X: the cost of a way, the survey -/
theorem ov_tab : ∀ s : Fin 8, ∀ t : Fin 3, ((nI s.val >>> (nI t.val &&& 31)) &&& 1) = nI (s.val / 2 ^ t.val % 2) := by decide +kernel
theorem ov_tab2 {s t : Nat} (hs : s < 8) (ht : t < 3) : ((nI s >>> (nI t &&& 31)) &&& 1) = nI (s / 2 ^ t % 2) := ov_tab ⟨s, hs⟩ ⟨t, ht⟩
theorem ox_holds {post : Int32 → Prop} {s t : Nat} (hs : s < 8) (ht : t < 3) (h : post (ov_bI (ov_bit s t))) : wpX_holds post (nI s) (nI t) := by
  have h2 : s / 2 ^ t % 2 < 2 := Nat.mod_lt _ (by decide)
  unfold ov_bit at h
  refine pk_eq (s / 2 ^ t % 2) 1 (fun h1 => ?_) (fun h1 => ?_) (ov_tab2 hs ht) rfl (by omega) (by omega)
  · rw [decide_eq_true h1] at h; exact h
  · rw [decide_eq_false h1] at h; exact h
theorem ov_cp_0 {e : ov_E} {d : Nat → Nat} {n : Nat} (h : ov_kd e n = 0) : ov_cp e d n = (if ov_bit (ov_ct e n) (d n) = true then some (ov_lt e (d n)) else none) ∧ ov_ty e d n = d n := by
  unfold ov_cp ov_ty; rw [if_pos h, if_pos h]; exact ⟨rfl, rfl⟩
theorem ov_cp_1 {e : ov_E} {d : Nat → Nat} {n : Nat} (h : ov_kd e n = 1) : ov_cp e d n = (if ov_bit (ov_vs e (ov_ct e n)) (d (12 + ov_ct e n)) = true then some 0 else none) ∧ ov_ty e d n = d (12 + ov_ct e n) := by
  have h0 : ¬ ov_kd e n = 0 := by omega
  exact ⟨by unfold ov_cp; rw [if_neg h0, if_pos h], by unfold ov_ty; rw [if_neg h0, if_pos h]⟩
theorem ov_cp_2 {e : ov_E} {d : Nat → Nat} {n : Nat} (h : ov_kd e n = 2) : ov_cp e d n = some 0 ∧ ov_ty e d n = ov_ct e n := by
  have h0 : ¬ ov_kd e n = 0 := by omega
  have h1 : ¬ ov_kd e n = 1 := by omega
  exact ⟨by unfold ov_cp; rw [if_neg h0, if_neg h1, if_pos h], by unfold ov_ty; rw [if_neg h0, if_neg h1, if_pos h]⟩
theorem ov_cp_3 {e : ov_E} {d : Nat → Nat} {n : Nat} (h : ov_kd e n = 3) (hd : d n < ov_hd e (ov_ct e n)) : ov_cp e d n = ov_ca e (4 * ov_ct e n + d n) (ov_ty e d (ov_lf e n)) (ov_ty e d (ov_rt e n)) := by
  unfold ov_cp; rw [if_neg (by omega), if_neg (by omega), if_neg (by omega), if_pos hd]
theorem ov_ty_33 {e : ov_E} {d : Nat → Nat} {n : Nat} (h : ov_kd e n = 3) : ov_ty e d n = ov_st e (4 * ov_ct e n + d n) % 3 := by
  unfold ov_ty; rw [if_neg (by omega), if_neg (by omega), if_neg (by omega)]
theorem ov_sm_s {e : ov_E} {pb : Nat → Bool} {d : Nat → Nat} {k : Nat} (h : pb k = true) : ov_sm e pb d (k + 1) = ov_pl (ov_sm e pb d k) (ov_cp e d k) := if_pos h
theorem ov_sm_f {e : ov_E} {pb : Nat → Bool} {d : Nat → Nat} {k : Nat} (h : pb k = false) : ov_sm e pb d (k + 1) = ov_sm e pb d k := if_neg (by rw [h]; exact Bool.false_ne_true)
theorem ov_sm_n {e : ov_E} {pb : Nat → Bool} {d : Nat → Nat} {k : Nat} (h : ov_sm e pb d k = none) : ∀ r, ov_sm e pb d (k + r) = none := by
  intro r
  induction r with
  | zero => exact h
  | succ r ih =>
    cases hb : pb (k + r) with
    | false => exact (ov_sm_f hb).trans ih
    | true => exact (ov_sm_s hb).trans (by rw [ih, ov_pl_n'])
theorem ov_co_n {e : ov_E} {pb : Nat → Bool} {node wanted : Nat} {d : Nat → Nat} {k : Nat} (hk : k ≤ node + 1) (h : ov_sm e pb d k = none) : ov_co e pb node wanted d = none := by
  have h1 := ov_sm_n h (node + 1 - k)
  rw [show k + (node + 1 - k) = node + 1 by omega] at h1
  unfold ov_co
  rw [h1, ov_pl_n']
  split <;> rfl
section
variable {e : ov_E} {tk pt op ch ty hs bc bt : Nat → Int32} {so lo : Int32}
theorem ox_costOfApplication (hw : ov_W e) {d : Nat → Nat} {n : Nat} (hn : n < ov_nc e) (hk : ov_kd e n = 3) (hch : ch n = nI (d n)) (hd : d n < ov_hd e (ov_ct e n)) (hl : ty (ov_lf e n) = nI (ov_ty e d (ov_lf e n))) (hl3 : ov_ty e d (ov_lf e n) < 3) (hr : ty (ov_rt e n) = nI (ov_ty e d (ov_rt e n))) (hr3 : ov_ty e d (ov_rt e n) < 3) {post : Int32 → SX → Prop} (hp : post (ov_o (ov_cp e d n)) (nI (ov_nc e), nI (ov_ac e), so, lo, ov_C (ov_cv e), ov_A (ov_st e), ov_A (ov_sc e), ov_A (ov_hd e), ov_A (ov_vs e), ov_A (ov_lt e), ov_A (ov_kd e), ov_A (ov_ct e), ov_A (ov_lf e), ov_A (ov_rt e), tk, pt, op, ch, upd ty n (nI (ov_ty e d n)), hs, bc, bt)) : wpX_costOfApplication post (nI (ov_nc e), nI (ov_ac e), so, lo, ov_C (ov_cv e), ov_A (ov_st e), ov_A (ov_sc e), ov_A (ov_hd e), ov_A (ov_vs e), ov_A (ov_lt e), ov_A (ov_kd e), ov_A (ov_ct e), ov_A (ov_lf e), ov_A (ov_rt e), tk, pt, op, ch, ty, hs, bc, bt) (nI n) := by
  have h12 := hw.1
  obtain ⟨hc3, hln, hrn⟩ := (hw.2.2.2.2.2.2.2.2.1 n hn).2.2.2 hk
  have hv : vp_in (nI n) 12 := vp_in_nI (by omega) (by omega)
  have hv' : vp_in (nI n) 14 := vp_in_nI (by omega) (by omega)
  have h4 := hw.2.2.2.2.1 (ov_ct e n)
  rw [ov_cp_3 hk hd, ov_ty_33 hk] at hp
  generalize hi : 4 * ov_ct e n + d n = i at hp
  have hi12 : i < 12 := by omega
  have hvi : vp_in (nI i) 12 := vp_in_nI hi12 (by omega)
  have ht := hw.2.2.1 i
  generalize htl : ov_ty e d (ov_lf e n) = tl at hp hl hl3
  generalize htr : ov_ty e d (ov_rt e n) = tr at hp hr hr3
  have hL : 3 * (upd ty n (nI (ov_st e i % 3)) (ov_A (ov_lf e) (nI n).toNatClampNeg).toNatClampNeg) + nI (ov_st e i / 9) = nI (3 * tl + ov_st e i / 9) := by
    rw [ov_AV (by omega), nI_clamp (by omega), pk_un (by omega), hl, ov_ix3]
  have hR : 3 * (upd ty n (nI (ov_st e i % 3)) (ov_A (ov_rt e) (nI n).toNatClampNeg).toNatClampNeg) + nI (ov_st e i / 3 % 3) = nI (3 * tr + ov_st e i / 3 % 3) := by
    rw [ov_AV (by omega), nI_clamp (by omega), pk_un (by omega), hr, ov_ix3]
  refine ⟨hv, hv', nm_r (e' := nI i) (by rw [ov_AV (by omega), nI_clamp (by omega), hch, ov_ix4, hi]) ⟨hvi, nm_r (ov_AV (by omega)) ⟨ov_93, nm_r (ov_div9 (by omega)) ⟨ov_33, ov_33, nm_r (ov_rem33 (by omega)) ⟨ov_33, hv, nm_r (e' := upd ty n (nI (ov_st e i % 3))) (by rw [ov_rem3 (by omega), nI_clamp (by omega)]) ?_⟩⟩⟩⟩⟩
  refine ⟨hv, by rw [ov_AV (by omega)]; exact vp_in_nI (by omega) (by omega), by rw [hL]; exact vp_in_nI (by omega) (by omega), nm_r (e' := ov_o (ov_cv e (3 * tl + ov_st e i / 9))) (by rw [hL, nI_clamp (by omega)]; rfl) ?_⟩
  refine ⟨hv, by rw [ov_AV (by omega)]; exact vp_in_nI (by omega) (by omega), by rw [hR]; exact vp_in_nI (by omega) (by omega), nm_r (e' := ov_o (ov_cv e (3 * tr + ov_st e i / 3 % 3))) (by rw [hR, nI_clamp (by omega)]; rfl) ?_⟩
  unfold ov_ca at hp
  cases hA : ov_cv e (3 * tl + ov_st e i / 9) with
  | none =>
    rw [hA, ov_pl_n, ov_pl_n'] at hp
    exact br_t rfl hp
  | some a =>
    have ha := hw.2.1 _ _ hA
    rw [hA] at hp
    cases hB : ov_cv e (3 * tr + ov_st e i / 3 % 3) with
    | none =>
      rw [hB, ov_pl_n] at hp
      exact br_f (ov_m1n (by omega)) (br_t rfl hp)
    | some b =>
      have hb := hw.2.1 _ _ hB
      rw [hB] at hp
      refine br_f (ov_m1n (by omega)) (br_f (ov_m1n (by omega)) ⟨hvi, ?_⟩)
      have he : ov_A (ov_sc e) (nI i).toNatClampNeg + ov_o (some a) + ov_o (some b) = ov_o (ov_pl (ov_pl (some (ov_sc e i)) (some a)) (some b)) := by
        rw [ov_AV (by omega)]
        show nI _ + nI _ + nI _ = nI _
        rw [nI_add, nI_add]
      rw [he]
      exact hp
theorem ox_costOfPart (hw : ov_W e) {pb : Nat → Bool} {node : Nat} (hpb : ov_P1 e pb node) {d : Nat → Nat} (hD : ov_D e pb d) {n : Nat} (hn : pb n = true) (hch : ∀ j, j < 14 → ch j = nI (d j)) (hd : ov_kd e n = 3 → d n < ov_hd e (ov_ct e n)) (hty : ∀ j, j < n → pb j = true → ty j = nI (ov_ty e d j)) {post : Int32 → SX → Prop} (hp : post (ov_o (ov_cp e d n)) (nI (ov_nc e), nI (ov_ac e), so, lo, ov_C (ov_cv e), ov_A (ov_st e), ov_A (ov_sc e), ov_A (ov_hd e), ov_A (ov_vs e), ov_A (ov_lt e), ov_A (ov_kd e), ov_A (ov_ct e), ov_A (ov_lf e), ov_A (ov_rt e), tk, pt, op, ch, upd ty n (nI (ov_ty e d n)), hs, bc, bt)) : wpX_costOfPart post (nI (ov_nc e), nI (ov_ac e), so, lo, ov_C (ov_cv e), ov_A (ov_st e), ov_A (ov_sc e), ov_A (ov_hd e), ov_A (ov_vs e), ov_A (ov_lt e), ov_A (ov_kd e), ov_A (ov_ct e), ov_A (ov_lf e), ov_A (ov_rt e), tk, pt, op, ch, ty, hs, bc, bt) (nI n) := by
  have h12 := hw.1
  have hn1 := hpb.2.1 n hn
  have hn2 := hpb.1
  have hN := hw.2.2.2.2.2.2.2.2.1 n (by omega)
  have hk3 := hN.1
  have hDn := hD n hn
  have hct := hw.2.2.2.2.2.2.2.1 n
  have hv : vp_in (nI n) 12 := vp_in_nI (by omega) (by omega)
  have hv' : vp_in (nI n) 14 := vp_in_nI (by omega) (by omega)
  have hcn : ch (nI n).toNatClampNeg = nI (d n) := by rw [nI_clamp (by omega)]; exact hch n (by omega)
  refine ⟨hv, nm_r (ov_AV (by omega)) (br_f (nI_pos (by omega)) (pk_lt 2 (ov_kd e n) (fun h2 => ?_) (fun h2 => pk_eq (ov_kd e n) 0 (fun h0 => ?_) (fun h0 => pk_eq (ov_kd e n) 1 (fun h1 => ?_) (fun h1 => pk_eq (ov_kd e n) 2 (fun h3 => ?_) (fun _ => trivial))))))⟩
  · have h3 : ov_kd e n = 3 := by omega
    obtain ⟨_, hl, hr⟩ := hN.2.2.2 h3
    have hlr := hpb.2.2.2.1 n (Nat.zero_le _) hn h3
    exact ox_costOfApplication hw (by omega) h3 (hch n (by omega)) (hd h3) (hty _ hl hlr.1) (ov_ty_3 hw hpb hD hlr.1) (hty _ hr hlr.2) (ov_ty_3 hw hpb hD hlr.2) hp
  · have hdn := hDn.1 h0
    rw [(ov_cp_0 h0).1, (ov_cp_0 h0).2] at hp
    refine ⟨hv', hv, nm_r (e' := upd ty n (nI (d n))) (by rw [hcn, nI_clamp (by omega)]) ⟨hv, hv', ?_⟩⟩
    rw [ov_AV (by omega), hcn]
    refine ox_holds hct hdn (ov_pc rfl (fun hb => ?_) (fun hb => ⟨hv', vp_in_nI hdn (by omega), ?_⟩))
    · rw [if_neg (by rw [hb]; exact Bool.false_ne_true)] at hp; exact hp
    · rw [if_pos hb] at hp
      rw [ov_AV (by omega)]; exact hp
  · have hdn := hDn.2.1 h1
    have hc2 := hN.2.1 h1
    rw [(ov_cp_1 h1).1, (ov_cp_1 h1).2] at hp
    have hcv : ch (12 + ov_A (ov_ct e) (nI n).toNatClampNeg).toNatClampNeg = nI (d (12 + ov_ct e n)) := by
      rw [ov_AV (by omega), ov_ix12, nI_clamp (by omega)]; exact hch _ (by omega)
    refine ⟨hv, by rw [ov_AV (by omega), ov_ix12]; exact vp_in_nI (by omega) (by omega), nm_r hcv ⟨hv, nm_r (e' := upd ty n (nI (d (12 + ov_ct e n)))) (by rw [nI_clamp (by omega)]) ⟨hv, ?_⟩⟩⟩
    rw [ov_AV (by omega), ov_AV (by omega)]
    refine ⟨vp_in_nI hc2 (by omega), ox_holds (hw.2.2.2.2.2.1 _) hdn (ov_pc rfl (fun hb => ?_) (fun hb => ?_))⟩
    · rw [if_neg (by rw [hb]; exact Bool.false_ne_true)] at hp; exact hp
    · rw [if_pos hb] at hp; exact hp
  · rw [(ov_cp_2 h3).1, (ov_cp_2 h3).2] at hp
    exact ⟨hv, hv, nm_r (e' := upd ty n (nI (ov_ct e n))) (by rw [ov_AV (by omega), nI_clamp (by omega)]) hp⟩
theorem ox_costOfChoices (hw : ov_W e) {pb : Nat → Bool} {node wanted : Nat} (hpb : ov_P1 e pb node) (hwa : wanted ≤ 3) (hpt : ∀ j, j < 12 → pt j = ov_bI (pb j)) {d : Nat → Nat} (hD : ov_D e pb d) (hch : ∀ j, j < 14 → ch j = nI (d j)) (hd : ∀ n, pb n = true → ov_kd e n = 3 → d n < ov_hd e (ov_ct e n)) {post : Int32 → SX → Prop} (hp : ∀ ty', (∀ c, ov_co e pb node wanted d = some c → ∀ j, pb j = true → ty' j = nI (ov_ty e d j)) → post (ov_o (ov_co e pb node wanted d)) (nI (ov_nc e), nI (ov_ac e), so, lo, ov_C (ov_cv e), ov_A (ov_st e), ov_A (ov_sc e), ov_A (ov_hd e), ov_A (ov_vs e), ov_A (ov_lt e), ov_A (ov_kd e), ov_A (ov_ct e), ov_A (ov_lf e), ov_A (ov_rt e), tk, pt, op, ch, ty', hs, bc, bt)) : wpX_costOfChoices post (nI (ov_nc e), nI (ov_ac e), so, lo, ov_C (ov_cv e), ov_A (ov_st e), ov_A (ov_sc e), ov_A (ov_hd e), ov_A (ov_vs e), ov_A (ov_lt e), ov_A (ov_kd e), ov_A (ov_ct e), ov_A (ov_lf e), ov_A (ov_rt e), tk, pt, op, ch, ty, hs, bc, bt) (nI node) (nI wanted) := by
  have h12 := hw.1
  have hn2 := hpb.1
  refine loop_0 (fun n i s => wX_costOfChoices_5 post (nI node) (nI wanted) n (nI s.1) (nI i) (nI (ov_nc e)) (nI (ov_ac e)) so lo (ov_C (ov_cv e)) (ov_A (ov_st e)) (ov_A (ov_sc e)) (ov_A (ov_hd e)) (ov_A (ov_vs e)) (ov_A (ov_lt e)) (ov_A (ov_kd e)) (ov_A (ov_ct e)) (ov_A (ov_lf e)) (ov_A (ov_rt e)) tk pt op ch s.2 hs bc bt) (fun i s => ov_sm e pb d i = some s.1 ∧ ∀ j, j < i → pb j = true → s.2 j = nI (ov_ty e d j)) (node + 1) ((0 : Nat), ty) ⟨rfl, fun j hj => absurd hj (by omega)⟩ (fun n s hI => ?_) (fun n i s hi hI hk => ?_)
  · obtain ⟨sm, ty1⟩ := s
    obtain ⟨hs, ht⟩ := hI
    dsimp only at hs ht
    have ht' : ∀ j, pb j = true → ty1 j = nI (ov_ty e d j) := fun j hj => ht j (by have := hpb.2.1 j hj; omega) hj
    have hnode := ht' node hpb.2.2.1
    have hty3 := ov_ty_3 hw hpb hD hpb.2.2.1
    have h1 := hp ty1 (fun _ _ => ht')
    unfold ov_co at h1
    rw [hs] at h1
    refine br_t (nI_lt (by omega) (by omega)) (pk_eq wanted 3 (fun h3 => ?_) (fun h3 => ?_))
    · rw [if_pos h3] at h1; exact h1
    · rw [if_neg h3] at h1
      have hix : 3 * ty1 (nI node).toNatClampNeg + nI wanted = nI (3 * ov_ty e d node + wanted) := by
        rw [nI_clamp (by omega), hnode, ov_ix3]
      refine ⟨vp_in_nI (by omega) (by omega), by rw [hix]; exact vp_in_nI (by omega) (by omega), nm_r (e' := ov_o (ov_cv e (3 * ov_ty e d node + wanted))) (by rw [hix, nI_clamp (by omega)]; rfl) ?_⟩
      cases hA : ov_cv e (3 * ov_ty e d node + wanted) with
      | none => rw [hA, ov_pl_n] at h1; exact br_t rfl h1
      | some a =>
        have := hw.2.1 _ _ hA
        rw [hA] at h1
        refine br_f (ov_m1n (by omega)) ?_
        have he : nI sm + ov_o (some a) = ov_o (ov_pl (some sm) (some a)) := nI_add _ _
        rw [he]; exact h1
  · obtain ⟨sm, ty1⟩ := s
    obtain ⟨hs, ht⟩ := hI
    dsimp only at hs ht
    refine br_f (nI_nlt (by omega) (by omega)) ⟨vp_in_nI (by omega) (by omega), ov_pc (b := pb i) (by rw [nI_clamp (by omega)]; exact hpt i (by omega)) (fun hb => ?_) (fun hb => ?_)⟩
    · refine nm_r (nI_1 _) (hk (sm, ty1) ⟨(ov_sm_f hb).trans hs, fun j hj hpj => ?_⟩)
      by_cases hji : j = i
      · subst hji; rw [hb] at hpj; exact absurd hpj Bool.false_ne_true
      · exact ht j (by omega) hpj
    · refine ox_costOfPart hw hpb hD hb hch (hd i hb) ht ?_
      have hty' : ∀ j, j < i + 1 → pb j = true → upd ty1 i (nI (ov_ty e d i)) j = nI (ov_ty e d j) := fun j hj hpj => by
        by_cases hji : j = i
        · subst hji; exact pk_us
        · rw [pk_un hji]; exact ht j (by omega) hpj
      have hsm : ov_sm e pb d (i + 1) = ov_pl (some sm) (ov_cp e d i) := by rw [ov_sm_s hb, hs]
      have hN := hw.2.2.2.2.2.2.2.2.1 i (by omega)
      cases hc : ov_cp e d i with
      | none =>
        rw [hc, ov_pl_n] at hsm
        have hco := ov_co_n (wanted := wanted) (node := node) (by omega) hsm
        have h1 := hp (upd ty1 i (nI (ov_ty e d i))) (fun c h => by rw [hco] at h; cases h)
        rw [hco] at h1
        exact br_t rfl h1
      | some c =>
        have hc27 := ov_cp_le hw hN.1 hc
        have hc28 : c < 2 ^ 31 := by
          split at hc27 <;> omega
        rw [hc] at hsm
        exact br_f (ov_m1n hc28) (nm_r (e' := nI (sm + c)) (nI_add _ _) (nm_r (nI_1 _) (hk (sm + c, _) ⟨hsm, hty'⟩)))
end
def ov_XC (e : ov_E) (pb : Nat → Bool) (t : ov_T) (so lo : Int32) (hs bc bt : Nat → Int32) : Prop := so = nI t.1 ∧ (t.1 ≠ 0 → lo = nI t.2.1 ∧ (∀ j, j < 12 → bc j = nI (t.2.2.1 j)) ∧ (∀ j, pb j = true → bt j = nI (ov_ty e t.2.2.1 j))) ∧ (∀ j, j < 127 → hs j = nI (t.2.2.2 j))
section
variable {e : ov_E} {tk pt op ch ty hs bc bt : Nat → Int32} {so lo : Int32}
theorem ox_note_58 {post : SX → Prop} {c z : Nat} (hc : c < 127) (hz : so = nI z) {f : Nat → Nat} (hh : ∀ j, j < 127 → hs j = nI (f j)) (h : ∀ hs', (∀ j, j < 127 → hs' j = nI (ov_u f c (f c + 1) j)) → post (nI (ov_nc e), nI (ov_ac e), nI (z + 1), lo, ov_C (ov_cv e), ov_A (ov_st e), ov_A (ov_sc e), ov_A (ov_hd e), ov_A (ov_vs e), ov_A (ov_lt e), ov_A (ov_kd e), ov_A (ov_ct e), ov_A (ov_lf e), ov_A (ov_rt e), tk, pt, op, ch, ty, hs', bc, bt)) : wX_noteSolution_58 post (nI c) (nI (ov_nc e)) (nI (ov_ac e)) so lo (ov_C (ov_cv e)) (ov_A (ov_st e)) (ov_A (ov_sc e)) (ov_A (ov_hd e)) (ov_A (ov_vs e)) (ov_A (ov_lt e)) (ov_A (ov_kd e)) (ov_A (ov_ct e)) (ov_A (ov_lf e)) (ov_A (ov_rt e)) tk pt op ch ty hs bc bt := by
  have hv : vp_in (nI c) 127 := vp_in_nI hc (by omega)
  refine nm_r (e' := nI (z + 1)) (by rw [hz, nI_1]) ⟨hv, hv, nm_r (e' := upd hs c (nI (f c + 1))) (by rw [nI_clamp (by omega), hh c hc, nI_1]) (h _ (fun j hj => ?_))⟩
  by_cases hjc : j = c
  · subst hjc; rw [pk_us, ov_us]
  · rw [pk_un hjc, ov_un hjc]; exact hh j hj
theorem ox_note_22 {post : SX → Prop} {c z : Nat} (hc : c < 127) (hz : so = nI z) {f : Nat → Nat} (hh : ∀ j, j < 127 → hs j = nI (f j)) (h : ∀ hs' bc' bt', (∀ j, j < 127 → hs' j = nI (ov_u f c (f c + 1) j)) → (∀ j, j < 12 → bc' j = ch j) → (∀ j, j < 12 → bt' j = ty j) → post (nI (ov_nc e), nI (ov_ac e), nI (z + 1), lo, ov_C (ov_cv e), ov_A (ov_st e), ov_A (ov_sc e), ov_A (ov_hd e), ov_A (ov_vs e), ov_A (ov_lt e), ov_A (ov_kd e), ov_A (ov_ct e), ov_A (ov_lf e), ov_A (ov_rt e), tk, pt, op, ch, ty, hs', bc', bt')) : ∃ n, wX_noteSolution_22 post (nI c) (nI (ov_nc e)) (nI (ov_ac e)) so lo n 0 (ov_C (ov_cv e)) (ov_A (ov_st e)) (ov_A (ov_sc e)) (ov_A (ov_hd e)) (ov_A (ov_vs e)) (ov_A (ov_lt e)) (ov_A (ov_kd e)) (ov_A (ov_ct e)) (ov_A (ov_lf e)) (ov_A (ov_rt e)) tk pt op ch ty hs bc bt := by
  refine loop_0 (fun n i s => wX_noteSolution_22 post (nI c) (nI (ov_nc e)) (nI (ov_ac e)) so lo n (nI i) (ov_C (ov_cv e)) (ov_A (ov_st e)) (ov_A (ov_sc e)) (ov_A (ov_hd e)) (ov_A (ov_vs e)) (ov_A (ov_lt e)) (ov_A (ov_kd e)) (ov_A (ov_ct e)) (ov_A (ov_lf e)) (ov_A (ov_rt e)) tk pt op ch ty hs s.1 s.2) (fun i s => (∀ j, j < i → s.1 j = ch j) ∧ (∀ j, j < i → s.2 j = ty j)) 12 (bc, bt) ⟨fun j hj => absurd hj (by omega), fun j hj => absurd hj (by omega)⟩ (fun n s hI => ?_) (fun n i s hi hI hk => ?_)
  · exact br_t (nI_le (a := 12) (Nat.le_refl _) (by omega)) (ox_note_58 hc hz hh (fun hs' hhs => h hs' s.1 s.2 hhs hI.1 hI.2))
  · have hv : vp_in (nI i) 12 := vp_in_nI hi (by omega)
    have hv' : vp_in (nI i) 14 := vp_in_nI (by omega) (by omega)
    exact br_f (nI_ge (b := 12) hi (by omega)) ⟨hv', hv, nm_r (e' := upd s.1 i (ch i)) (by rw [nI_clamp (by omega)]) ⟨hv, hv, nm_r (e' := upd s.2 i (ty i)) (by rw [nI_clamp (by omega)]) (nm_r (nI_1 _) (hk (_, _) ⟨ov_up (f := ch) hI.1 rfl, ov_up (f := ty) hI.2 rfl⟩))⟩⟩
theorem ox_note (hw : ov_W e) {pb : Nat → Bool} {node wanted : Nat} (hpb : ov_P1 e pb node) {t : ov_T} {n : Nat} (hn : n < 2 ^ 31) (hT : ov_TI e pb node wanted n t) (hX : ov_XC e pb t so lo hs bc bt) {d : Nat → Nat} {c : Nat} (hc : ov_co e pb node wanted d = some c) (hch : ∀ j, j < 12 → ch j = nI (d j)) (hty : ∀ j, pb j = true → ty j = nI (ov_ty e d j)) {post : SX → Prop} (h : ∀ so' lo' hs' bc' bt', ov_XC e pb (ov_en e pb node wanted d t) so' lo' hs' bc' bt' → post (nI (ov_nc e), nI (ov_ac e), so', lo', ov_C (ov_cv e), ov_A (ov_st e), ov_A (ov_sc e), ov_A (ov_hd e), ov_A (ov_vs e), ov_A (ov_lt e), ov_A (ov_kd e), ov_A (ov_ct e), ov_A (ov_lf e), ov_A (ov_rt e), tk, pt, op, ch, ty, hs', bc', bt')) : wpX_noteSolution post (nI (ov_nc e), nI (ov_ac e), so, lo, ov_C (ov_cv e), ov_A (ov_st e), ov_A (ov_sc e), ov_A (ov_hd e), ov_A (ov_vs e), ov_A (ov_lt e), ov_A (ov_kd e), ov_A (ov_ct e), ov_A (ov_lf e), ov_A (ov_rt e), tk, pt, op, ch, ty, hs, bc, bt) (nI c) := by
  have h12 := hw.1
  have hn2 := hpb.1
  have hc127 := ov_co_le hw hpb hc
  obtain ⟨sz, lw, bd, hh⟩ := t
  obtain ⟨hso, hlo, hhs⟩ := hX
  obtain ⟨hT1, hT2, hT3, hT4⟩ := hT
  rw [ov_en_s hc] at h
  dsimp only at hso hlo hhs hT1 hT2 hT3 hT4 h
  have key : sz = 0 ∨ c < lw → ∃ n22, wX_noteSolution_22 post (nI c) (nI (ov_nc e)) (nI (ov_ac e)) so (nI c) n22 0 (ov_C (ov_cv e)) (ov_A (ov_st e)) (ov_A (ov_sc e)) (ov_A (ov_hd e)) (ov_A (ov_vs e)) (ov_A (ov_lt e)) (ov_A (ov_kd e)) (ov_A (ov_ct e)) (ov_A (ov_lf e)) (ov_A (ov_rt e)) tk pt op ch ty hs bc bt := fun hl => by
    rw [if_pos hl, if_pos hl] at h
    refine ox_note_22 hc127 hso hhs (fun hs' bc' bt' a1 a2 a3 => h _ _ _ _ _ ⟨rfl, fun _ => ⟨rfl, fun j hj => ?_, fun j hj => ?_⟩, a1⟩)
    · rw [a2 j hj]; exact hch j hj
    · rw [a3 j (by have := hpb.2.1 j hj; omega)]; exact hty j hj
  refine pk_eq sz 0 (fun h0 => key (Or.inl h0)) (fun h0 => ?_) hso rfl (by omega) (by omega)
  have h4 := hT4 h0
  have hl := hlo h0
  refine pk_le lw c (fun hle => ?_) (fun hlt => key (Or.inr hlt)) hl.1 rfl (by omega) (by omega)
  have hneg : ¬ (sz = 0 ∨ c < lw) := fun z => by omega
  rw [if_neg hneg, if_neg hneg] at h
  exact ox_note_58 hc127 hso hhs (fun hs' a1 => h _ _ _ _ _ ⟨rfl, fun _ => hl, a1⟩)
end
