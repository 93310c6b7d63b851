/-! Y: the price of a way, all ways -/
theorem ov_neg1 : (-1 : Int32) < 0 := by decide
theorem ov_neg1' : ¬ (0 : Int32) ≤ -1 := by decide
section
variable {e : ov_E} {tk yq yr pa pq pv yt : Nat → Int32} {to fi le be bo sa : Int32}
theorem oy_price (hw : ov_W e) {pb : Nat → Bool} {node wanted : Nat} (hpb : ov_P1 e pb node) (hwa : wanted ≤ 3) (hpa : ∀ j, j < 12 → pa j = ov_bI (pb j)) (hq : ∀ n, n < ov_nc e → ov_kd e n = 3 → yq n = nI (ov_lf e n) ∧ yr n = nI (ov_rt e n)) {d : Nat → Nat} (hD : ov_D e pb d) (hG : ov_G e pb d) (hpq : ∀ j, j < ov_nc e → pq j = nI (d j)) (hpv : ∀ v, v < 2 → ov_nm e pb v 12 = true → pv v = nI (d (12 + v))) {post : Int32 → SY → Prop} (hp : ∀ yt', (∀ c, ov_co e pb node wanted d = some c → ∀ j, pb j = true → yt' j = nI (ov_ty e d j)) → post (ov_o (ov_co e pb node wanted d)) (nI (ov_nc e), to, fi, le, be, bo, sa, ov_C (ov_cv e), ov_A (ov_hd e), ov_A (ov_s9 e), ov_A (ov_s3 e), ov_A (ov_s1 e), ov_A (ov_sc e), ov_A (ov_vs e), ov_A (ov_lt e), ov_A (ov_kd e), ov_A (ov_ct e), yq, yr, tk, pa, pq, pv, yt')) : wpY_price post (nI (ov_nc e), to, fi, le, be, bo, sa, ov_C (ov_cv e), ov_A (ov_hd e), ov_A (ov_s9 e), ov_A (ov_s3 e), ov_A (ov_s1 e), ov_A (ov_sc e), ov_A (ov_vs e), ov_A (ov_lt e), ov_A (ov_kd e), ov_A (ov_ct e), yq, yr, tk, pa, pq, pv, yt) (nI node) (nI wanted) := by
  have h12 := hw.1
  have hn2 := hpb.1
  refine loop_0 (fun n i s => wY_price_5 post (nI node) (nI wanted) (nI (ov_nc e)) to fi le be bo sa n (nI s.1) (nI i) (ov_C (ov_cv e)) (ov_A (ov_hd e)) (ov_A (ov_s9 e)) (ov_A (ov_s3 e)) (ov_A (ov_s1 e)) (ov_A (ov_sc e)) (ov_A (ov_vs e)) (ov_A (ov_lt e)) (ov_A (ov_kd e)) (ov_A (ov_ct e)) yq yr tk pa pq pv s.2) (fun i s => ov_sm e pb d i = some s.1 ∧ ∀ j, j < i → pb j = true → s.2 j = nI (ov_ty e d j)) (node + 1) ((0 : Nat), yt) ⟨rfl, fun j hj => absurd hj (by omega)⟩ (fun n s hI => ?_) (fun n i s hi hI hk => ?_)
  · obtain ⟨sm, ty1⟩ := s
    obtain ⟨hs, ht⟩ := hI
    dsimp only at hs ht
    have ht' : ∀ j, pb j = true → ty1 j = nI (ov_ty e d j) := fun j hj => ht j (by have := hpb.2.1 j hj; omega) hj
    have hnode := ht' node hpb.2.2.1
    have hty3 := ov_ty_3 hw hpb hD hpb.2.2.1
    have h1 := hp ty1 (fun _ _ => ht')
    unfold ov_co at h1
    rw [hs] at h1
    refine br_t (nI_lt (by omega) (by omega)) (pk_eq wanted 3 (fun h3 => ?_) (fun h3 => ?_))
    · rw [if_pos h3] at h1; exact h1
    · rw [if_neg h3] at h1
      have hix : 3 * ty1 (nI node).toNatClampNeg + nI wanted = nI (3 * ov_ty e d node + wanted) := by
        rw [nI_clamp (by omega), hnode, ov_ix3]
      refine ⟨vp_in_nI (by omega) (by omega), by rw [hix]; exact vp_in_nI (by omega) (by omega), nm_r (e' := ov_o (ov_cv e (3 * ov_ty e d node + wanted))) (by rw [hix, nI_clamp (by omega)]; rfl) ?_⟩
      cases hA : ov_cv e (3 * ov_ty e d node + wanted) with
      | none => rw [hA, ov_pl_n] at h1; exact br_f ov_neg1' h1
      | some a =>
        have := hw.2.1 _ _ hA
        rw [hA] at h1
        refine br_t (nI_pos' (by omega)) ?_
        have he : nI sm + ov_o (some a) = ov_o (ov_pl (some sm) (some a)) := nI_add _ _
        rw [he]; exact h1
  · obtain ⟨sm, ty1⟩ := s
    obtain ⟨hs, ht⟩ := hI
    dsimp only at hs ht
    have hiv : vp_in (nI i) 12 := vp_in_nI (by omega) (by omega)
    refine br_f (nI_nlt (by omega) (by omega)) (br_f (nI_ge (b := 12) (by omega) (by omega)) ⟨hiv, ov_pc (b := pb i) (by rw [nI_clamp (by omega)]; exact hpa i (by omega)) (fun hb => ?_) (fun hb => ?_)⟩)
    · refine nm_r (nI_1 _) (hk (sm, ty1) ⟨(ov_sm_f hb).trans hs, fun j hj hpj => ?_⟩)
      by_cases hji : j = i
      · subst hji; rw [hb] at hpj; exact absurd hpj Bool.false_ne_true
      · exact ht j (by omega) hpj
    · have hty' : ∀ j, j < i + 1 → pb j = true → upd ty1 i (nI (ov_ty e d i)) j = nI (ov_ty e d j) := fun j hj hpj => by
        by_cases hji : j = i
        · subst hji; exact pk_us
        · rw [pk_un hji]; exact ht j (by omega) hpj
      have hsm : ov_sm e pb d (i + 1) = ov_pl (some sm) (ov_cp e d i) := by rw [ov_sm_s hb, hs]
      have hN := hw.2.2.2.2.2.2.2.2.1 i (by omega)
      have hk3 := hN.1
      have hDi := hD i hb
      have hGi := hG i hb
      have hct := hw.2.2.2.2.2.2.2.1 i
      have hpi : pq (nI i).toNatClampNeg = nI (d i) := by rw [nI_clamp (by omega)]; exact hpq i (by omega)
      have hki : ov_A (ov_kd e) (nI i).toNatClampNeg = nI (ov_kd e i) := ov_AV (by omega)
      refine ⟨hiv, pk_eq (ov_kd e i) 0 (fun h0 => ?_) (fun h0 => ⟨hiv, pk_eq (ov_kd e i) 1 (fun h1 => ?_) (fun h1 => ⟨hiv, pk_eq (ov_kd e i) 2 (fun h2 => ?_) (fun h2 => ?_) hki rfl (by omega) (by omega)⟩) hki rfl (by omega) (by omega)⟩) hki rfl (by omega) (by omega)⟩
      · have hd3 := hDi.1 h0
        have hg := hGi.1
        unfold ov_g1 at hg
        rw [if_pos h0] at hg
        rw [(ov_cp_0 h0).1, if_pos hg] at hsm
        rw [(ov_cp_0 h0).2] at hty'
        refine ⟨hiv, hiv, nm_r (e' := upd ty1 i (nI (d i))) (by rw [hpi, nI_clamp (by omega)]) ⟨hiv, by rw [hpi]; exact vp_in_nI hd3 (by omega), nm_r (e' := nI (sm + ov_lt e (d i))) (by rw [hpi, ov_AV (by omega), nI_add]) (nm_r (nI_1 _) (hk (_, _) ⟨hsm, hty'⟩))⟩⟩
      · have hd3 := hDi.2.1 h1
        have hc2 := hN.2.1 h1
        rw [(ov_cp_1 h1).1, if_pos (hGi.2 h1)] at hsm
        rw [(ov_cp_1 h1).2] at hty'
        have hvi : pv (ov_A (ov_ct e) (nI i).toNatClampNeg).toNatClampNeg = nI (d (12 + ov_ct e i)) := by
          rw [ov_AV (by omega), nI_clamp (by omega)]; exact hpv _ hc2 (ov_nm_of hb h1 12 (by omega))
        refine ⟨hiv, by rw [ov_AV (by omega)]; exact vp_in_nI hc2 (by omega), hiv, nm_r (e' := upd ty1 i (nI (d (12 + ov_ct e i)))) (by rw [hvi, nI_clamp (by omega)]) (nm_r (nI_1 _) (hk (sm, _) ⟨hsm, hty'⟩))⟩
      · rw [(ov_cp_2 h2).1] at hsm
        rw [(ov_cp_2 h2).2] at hty'
        exact ⟨hiv, hiv, nm_r (e' := upd ty1 i (nI (ov_ct e i))) (by rw [ov_AV (by omega), nI_clamp (by omega)]) (nm_r (nI_1 _) (hk (sm, _) ⟨hsm, hty'⟩))⟩
      · have h3 : ov_kd e i = 3 := by omega
        have hg := hGi.1
        unfold ov_g1 at hg
        rw [if_neg h0, if_pos h3] at hg
        have hdh := of_decide_eq_true hg
        have hh4 := hw.2.2.2.2.1 (ov_ct e i)
        obtain ⟨hc3, hln, hrn⟩ := hN.2.2.2 h3
        have hlr := hpb.2.2.2.1 i (Nat.zero_le _) hb h3
        have hl := ht _ hln hlr.1
        have hr := ht _ hrn hlr.2
        have hl3 := ov_ty_3 hw hpb hD hlr.1
        have hr3 := ov_ty_3 hw hpb hD hlr.2
        rw [ov_cp_3 h3 hdh] at hsm
        rw [ov_ty_33 h3] at hty'
        generalize hie : 4 * ov_ct e i + d i = ii at hsm hty'
        have hii : ii < 12 := by omega
        have hvi : vp_in (nI ii) 12 := vp_in_nI hii (by omega)
        have hst := hw.2.2.1 ii
        generalize htl : ov_ty e d (ov_lf e i) = tl at hsm hl hl3
        generalize htr : ov_ty e d (ov_rt e i) = tr at hsm hr hr3
        have ql : yq (nI i).toNatClampNeg = nI (ov_lf e i) := by rw [nI_clamp (by omega)]; exact (hq i (by omega) h3).1
        have qr : yr (nI i).toNatClampNeg = nI (ov_rt e i) := by rw [nI_clamp (by omega)]; exact (hq i (by omega) h3).2
        have hL : 3 * (upd ty1 i (nI (ov_st e ii % 3)) (yq (nI i).toNatClampNeg).toNatClampNeg) + ov_A (ov_s9 e) (nI ii).toNatClampNeg = nI (3 * tl + ov_st e ii / 9) := by
          rw [ql, nI_clamp (show ov_lf e i < 2 ^ 31 by omega), pk_un (by omega), hl, ov_AV (by omega), ov_ix3]; rfl
        have hR : 3 * (upd ty1 i (nI (ov_st e ii % 3)) (yr (nI i).toNatClampNeg).toNatClampNeg) + ov_A (ov_s3 e) (nI ii).toNatClampNeg = nI (3 * tr + ov_st e ii / 3 % 3) := by
          rw [qr, nI_clamp (show ov_rt e i < 2 ^ 31 by omega), pk_un (by omega), hr, ov_AV (by omega), ov_ix3]; rfl
        refine ⟨hiv, hiv, nm_r (e' := nI ii) (by rw [ov_AV (by omega), hpi, ov_ix4, hie]) ⟨hvi, hiv, nm_r (e' := upd ty1 i (nI (ov_st e ii % 3))) (by rw [ov_AV (by omega), nI_clamp (by omega)]; rfl) ?_⟩⟩
        refine ⟨hiv, by rw [ql]; exact vp_in_nI (by omega) (by omega), hvi, by rw [hL]; exact vp_in_nI (by omega) (by omega), nm_r (e' := ov_o (ov_cv e (3 * tl + ov_st e ii / 9))) (by rw [hL, nI_clamp (by omega)]; rfl) ?_⟩
        refine ⟨hiv, by rw [qr]; exact vp_in_nI (by omega) (by omega), hvi, by rw [hR]; exact vp_in_nI (by omega) (by omega), nm_r (e' := ov_o (ov_cv e (3 * tr + ov_st e ii / 3 % 3))) (by rw [hR, nI_clamp (by omega)]; rfl) ?_⟩
        unfold ov_ca at hsm
        have bad : ov_sm e pb d (i + 1) = none → post (-1) (nI (ov_nc e), to, fi, le, be, bo, sa, ov_C (ov_cv e), ov_A (ov_hd e), ov_A (ov_s9 e), ov_A (ov_s3 e), ov_A (ov_s1 e), ov_A (ov_sc e), ov_A (ov_vs e), ov_A (ov_lt e), ov_A (ov_kd e), ov_A (ov_ct e), yq, yr, tk, pa, pq, pv, upd ty1 i (nI (ov_st e ii % 3))) := fun hnone => by
          have hco := ov_co_n (wanted := wanted) (node := node) (by omega) hnone
          have h1 := hp (upd ty1 i (nI (ov_st e ii % 3))) (fun c h => by rw [hco] at h; cases h)
          rw [hco] at h1
          exact h1
        cases hA : ov_cv e (3 * tl + ov_st e ii / 9) with
        | none =>
          rw [hA, ov_pl_n, ov_pl_n', ov_pl_n] at hsm
          exact br_t ov_neg1 (bad hsm)
        | some a =>
          have ha := hw.2.1 _ _ hA
          rw [hA] at hsm
          refine br_f (nI_pos (by omega)) ?_
          cases hB : ov_cv e (3 * tr + ov_st e ii / 3 % 3) with
          | none =>
            rw [hB, ov_pl_n, ov_pl_n] at hsm
            exact br_f ov_neg1' (bad hsm)
          | some b =>
            have hb := hw.2.1 _ _ hB
            rw [hB] at hsm
            refine br_t (nI_pos' (by omega)) ⟨hvi, nm_r (e' := nI (sm + (ov_sc e ii + a + b))) ?_ (nm_r (nI_1 _) (hk (_, _) ⟨hsm, hty'⟩))⟩
            rw [ov_AV (by omega)]
            show nI _ + (nI _ + nI _ + nI _) = nI _
            rw [nI_add, nI_add, nI_add]
end
def ov_YC (e : ov_E) (pb : Nat → Bool) (asked : Int32) (t : ov_T) (fi le be bo sa : Int32) : Prop := fi = nI t.1 ∧ (t.1 = 0 → le = -3 ∧ be = 0) ∧ (t.1 ≠ 0 → le = nI t.2.1 ∧ be = nI (t.2.2.2 t.2.1) ∧ ∃ c, c < ov_P (ov_b e pb ov_4) 14 ∧ bo = nI c ∧ t.2.2.1 = ov_rd (ov_b e pb ov_4) 14 c ov_z) ∧ (∀ a, a < 127 → asked = nI a → sa = nI (t.2.2.2 a)) ∧ ((∀ a, a < 127 → ¬ asked = nI a) → sa = 0)
section
variable {e : ov_E} {tk yq yr pa pq pv yt : Nat → Int32} {to fi le be bo sa : Int32}
theorem oy_tally (hw : ov_W e) {pb : Nat → Bool} {node wanted : Nat} (hpb : ov_P1 e pb node) {asked : Int32} {t : ov_T} {m : Nat} (hm : m < 2 ^ 31) (hT : ov_TI e pb node wanted m t) {c : Nat} (hc : c < ov_P (ov_b e pb ov_4) 14) {x : Nat} (hco : ov_co e pb node wanted (ov_rd (ov_b e pb ov_4) 14 c ov_z) = some x) (hle : t.1 = 0 → le = -3 ∧ be = 0) (hle' : t.1 ≠ 0 → le = nI t.2.1 ∧ be = nI (t.2.2.2 t.2.1) ∧ ∃ c, c < ov_P (ov_b e pb ov_4) 14 ∧ bo = nI c ∧ t.2.2.1 = ov_rd (ov_b e pb ov_4) 14 c ov_z) (hfi : fi = nI (t.1 + 1)) (hsa : (∀ a, a < 127 → asked = nI a → sa = nI (ov_u t.2.2.2 x (t.2.2.2 x + 1) a)) ∧ ((∀ a, a < 127 → ¬ asked = nI a) → sa = 0)) {post : SY → Prop} {J : Int32 → Int32 → Int32 → Int32 → Int32 → Int32 → Int32 → Int32 → (Nat → Int32) → (Nat → Int32) → (Nat → Int32) → (Nat → Int32) → (Nat → Int32) → (Nat → Int32) → (Nat → Int32) → (Nat → Int32) → (Nat → Int32) → (Nat → Int32) → (Nat → Int32) → (Nat → Int32) → (Nat → Int32) → (Nat → Int32) → (Nat → Int32) → (Nat → Int32) → (Nat → Int32) → Prop} (h : ∀ fi' le' be' bo' sa', ov_YC e pb asked (ov_en e pb node wanted (ov_rd (ov_b e pb ov_4) 14 c ov_z) t) fi' le' be' bo' sa' → J (nI (c + 1)) (nI (ov_nc e)) to fi' le' be' bo' sa' (ov_C (ov_cv e)) (ov_A (ov_hd e)) (ov_A (ov_s9 e)) (ov_A (ov_s3 e)) (ov_A (ov_s1 e)) (ov_A (ov_sc e)) (ov_A (ov_vs e)) (ov_A (ov_lt e)) (ov_A (ov_kd e)) (ov_A (ov_ct e)) yq yr tk pa pq pv yt) : wY_tryAll_91 post J (nI node) (nI wanted) asked (nI c) (nI x) (nI (ov_nc e)) to fi le be bo sa (ov_C (ov_cv e)) (ov_A (ov_hd e)) (ov_A (ov_s9 e)) (ov_A (ov_s3 e)) (ov_A (ov_s1 e)) (ov_A (ov_sc e)) (ov_A (ov_vs e)) (ov_A (ov_lt e)) (ov_A (ov_kd e)) (ov_A (ov_ct e)) yq yr tk pa pq pv yt := by
  have hx127 := ov_co_le hw hpb hco
  obtain ⟨sz, lw, bd, hh⟩ := t
  obtain ⟨hT1, hT2, hT3, hT4⟩ := hT
  rw [ov_en_s hco] at h
  dsimp only at hT1 hT2 hT3 hT4 h hle hle' hfi hsa
  have low : sz = 0 ∨ x < lw → wY_tryAll_107 post J (nI node) (nI wanted) asked (nI c) (nI x) (nI (ov_nc e)) to fi le be bo sa (ov_C (ov_cv e)) (ov_A (ov_hd e)) (ov_A (ov_s9 e)) (ov_A (ov_s3 e)) (ov_A (ov_s1 e)) (ov_A (ov_sc e)) (ov_A (ov_vs e)) (ov_A (ov_lt e)) (ov_A (ov_kd e)) (ov_A (ov_ct e)) yq yr tk pa pq pv yt := fun hl => by
    rw [if_pos hl, if_pos hl] at h
    have hz : hh x = 0 := by
      by_cases h0 : sz = 0
      · exact hT3 h0 x
      · exact (hT4 h0).2.2.1 x (by omega)
    refine br_t rfl (nm_r (e' := nI 1) rfl (nm_r (nI_1 _) (h _ _ _ _ _ ⟨hfi, fun z => absurd z (Nat.succ_ne_zero _), fun _ => ⟨rfl, ?_, c, hc, rfl, rfl⟩, hsa.1, hsa.2⟩)))
    show nI 1 = nI (ov_u hh x (hh x + 1) x)
    rw [ov_us, hz]
  by_cases h0 : sz = 0
  · have hl := (hle h0).1
    subst hl
    exact br_t (by decide) (low (Or.inl h0))
  · have h4 := hT4 h0
    obtain ⟨hl, hb, cc, hcc⟩ := hle' h0
    subst hl
    have hh2 := hT2 lw
    refine br_f (nI_pos (by omega)) (pk_le lw x (fun hlex => ?_) (fun hlt => low (Or.inr hlt)))
    have hneg : ¬ (sz = 0 ∨ x < lw) := fun z => by omega
    rw [if_neg hneg, if_neg hneg] at h
    refine pk_eq x lw (fun heq => ?_) (fun hne => ?_)
    · refine nm_r (e' := nI (hh lw + 1)) (by rw [hb, nI_1]) (nm_r (nI_1 _) (h _ _ _ _ _ ⟨hfi, fun z => absurd z (Nat.succ_ne_zero _), fun _ => ⟨rfl, ?_, cc, hcc⟩, hsa.1, hsa.2⟩))
      show nI (hh lw + 1) = nI (ov_u hh x (hh x + 1) lw)
      rw [heq, ov_us]
    · refine nm_r (nI_1 _) (h _ _ _ _ _ ⟨hfi, fun z => absurd z (Nat.succ_ne_zero _), fun _ => ⟨rfl, ?_, cc, hcc⟩, hsa.1, hsa.2⟩)
      show be = nI (ov_u hh x (hh x + 1) lw)
      rw [ov_un (fun z => hne z.symm)]
      exact hb
theorem oy_tryAll_loop (hw : ov_W e) {pb : Nat → Bool} {node wanted : Nat} (hpb : ov_P1 e pb node) (hwa : wanted ≤ 3) (hpa : ∀ j, j < 12 → pa j = ov_bI (pb j)) (hq : ∀ n, n < ov_nc e → ov_kd e n = 3 → yq n = nI (ov_lf e n) ∧ yr n = nI (ov_rt e n)) {asked : Int32} {post : SY → Prop} (h : ∀ fi' le' be' bo' sa' pq' pv' yt', ov_YC e pb asked (ov_rn e pb node wanted (ov_b e pb ov_4) (ov_P (ov_b e pb ov_4) 14)) fi' le' be' bo' sa' → post (nI (ov_nc e), nI (ov_P (ov_b e pb ov_4) 14), fi', le', be', bo', sa', ov_C (ov_cv e), ov_A (ov_hd e), ov_A (ov_s9 e), ov_A (ov_s3 e), ov_A (ov_s1 e), ov_A (ov_sc e), ov_A (ov_vs e), ov_A (ov_lt e), ov_A (ov_kd e), ov_A (ov_ct e), yq, yr, tk, pa, pq', pv', yt')) : ∃ n, wY_tryAll_34 post (nI node) (nI wanted) asked n 0 (nI (ov_nc e)) (nI (ov_P (ov_b e pb ov_4) 14)) 0 (-3) 0 0 0 (ov_C (ov_cv e)) (ov_A (ov_hd e)) (ov_A (ov_s9 e)) (ov_A (ov_s3 e)) (ov_A (ov_s1 e)) (ov_A (ov_sc e)) (ov_A (ov_vs e)) (ov_A (ov_lt e)) (ov_A (ov_kd e)) (ov_A (ov_ct e)) yq yr tk pa pq pv yt := by
  have hP := ov_P14 (e := e) (pb := pb) (a := ov_4) ov_4_le (Nat.le_refl 14)
  refine loop_0 (fun n c (s : Int32 × Int32 × Int32 × Int32 × Int32 × (Nat → Int32) × (Nat → Int32) × (Nat → Int32)) => wY_tryAll_34 post (nI node) (nI wanted) asked n (nI c) (nI (ov_nc e)) (nI (ov_P (ov_b e pb ov_4) 14)) s.1 s.2.1 s.2.2.1 s.2.2.2.1 s.2.2.2.2.1 (ov_C (ov_cv e)) (ov_A (ov_hd e)) (ov_A (ov_s9 e)) (ov_A (ov_s3 e)) (ov_A (ov_s1 e)) (ov_A (ov_sc e)) (ov_A (ov_vs e)) (ov_A (ov_lt e)) (ov_A (ov_kd e)) (ov_A (ov_ct e)) yq yr tk pa s.2.2.2.2.2.1 s.2.2.2.2.2.2.1 s.2.2.2.2.2.2.2)
    (fun c s => ov_YC e pb asked (ov_rn e pb node wanted (ov_b e pb ov_4) c) s.1 s.2.1 s.2.2.1 s.2.2.2.1 s.2.2.2.2.1)
    (ov_P (ov_b e pb ov_4) 14) (0, -3, 0, 0, 0, pq, pv, yt) ⟨rfl, fun _ => ⟨rfl, rfl⟩, fun z => absurd rfl z, fun _ _ _ => rfl, fun _ => rfl⟩ (fun n s hI => ?_) (fun n c s hc hI hk => ?_)
  · exact br_t (nI_le (Nat.le_refl _) (by omega)) (h _ _ _ _ _ _ _ _ hI)
  · obtain ⟨fi1, le1, be1, bo1, sa1, pq1, pv1, yt1⟩ := s
    dsimp only at hI
    have hT := ov_rn_TI (wanted := wanted) hw hpb (ov_b e pb ov_4) c
    rw [ov_rn_s] at hk
    generalize ov_rn e pb node wanted (ov_b e pb ov_4) c = t at hI hT hk
    refine br_f (nI_ge hc (by omega)) (oy_read hw hpb hpa hc (fun pq' pv' hpq hpv => ?_))
    have hlt : ∀ j, j < 14 → ov_rd (ov_b e pb ov_4) 14 c ov_z j < ov_b e pb ov_4 j := fun j hj => ov_rd_lt hc hj
    have hD := ov_D_of hw hpb ov_4_le hlt
    refine ov_pc rfl (fun hg => ?_) (fun hg => ?_)
    · cases hco : ov_co e pb node wanted (ov_rd (ov_b e pb ov_4) 14 c ov_z) with
      | none =>
        rw [ov_en_n hco] at hk
        exact nm_r (nI_1 _) (hk (fi1, le1, be1, bo1, sa1, pq', pv', yt1) hI)
      | some x =>
        have := (ov_gG_t hw hpb).mpr (ov_co_G hw hpb hco)
        rw [hg] at this
        exact absurd this Bool.false_ne_true
    · refine oy_price hw hpb hwa hpa hq hD ((ov_gG_t hw hpb).mp hg) hpq hpv (fun yt' _ => ?_)
      cases hco : ov_co e pb node wanted (ov_rd (ov_b e pb ov_4) 14 c ov_z) with
      | none =>
        rw [ov_en_n hco] at hk
        exact br_t ov_neg1 (nm_r (nI_1 _) (hk (fi1, le1, be1, bo1, sa1, pq', pv', yt') hI))
      | some x =>
        have hx127 := ov_co_le hw hpb hco
        obtain ⟨i1, i2, i3, i4, i5⟩ := hI
        refine br_f (nI_pos (by omega)) (nm_r (e' := nI (t.1 + 1)) (by rw [i1, nI_1]) ?_)
        have fin : ∀ sa', ((∀ a, a < 127 → asked = nI a → sa' = nI (ov_u t.2.2.2 x (t.2.2.2 x + 1) a)) ∧ ((∀ a, a < 127 → ¬ asked = nI a) → sa' = 0)) → wY_tryAll_91 post (wY_tryAll_34 post (nI node) (nI wanted) asked n) (nI node) (nI wanted) asked (nI c) (nI x) (nI (ov_nc e)) (nI (ov_P (ov_b e pb ov_4) 14)) (nI (t.1 + 1)) le1 be1 bo1 sa' (ov_C (ov_cv e)) (ov_A (ov_hd e)) (ov_A (ov_s9 e)) (ov_A (ov_s3 e)) (ov_A (ov_s1 e)) (ov_A (ov_sc e)) (ov_A (ov_vs e)) (ov_A (ov_lt e)) (ov_A (ov_kd e)) (ov_A (ov_ct e)) yq yr tk pa pq' pv' yt' := fun sa' hsa =>
          oy_tally hw hpb (m := c) (by omega) hT hc hco i2 i3 rfl hsa (fun fi' le' be' bo' sa'' hy => hk (fi', le', be', bo', sa'', pq', pv', yt') hy)
        by_cases hax : ov_o (some x) = asked
        · refine br_t hax (nm_r (e' := nI (t.2.2.2 x + 1)) (by rw [i4 x hx127 hax.symm, nI_1]) (fin _ ⟨fun a ha haa => ?_, fun hno => absurd hax.symm (hno x hx127)⟩))
          have : nI x = nI a := hax.trans haa
          have := (nI_eq (by omega) (by omega)).mp this
          subst this
          rw [ov_us]
        · refine br_f hax (fin _ ⟨fun a ha haa => ?_, i5⟩)
          rw [ov_un (fun z => hax (by rw [haa, z]; rfl))]
          exact i4 a ha haa
theorem oy_tryAll (hw : ov_W e) {node wanted : Nat} (hn : node < ov_nc e) (hwa : wanted ≤ 3) (hq : ∀ n, n < ov_nc e → ov_kd e n = 3 → yq n = nI (ov_lf e n) ∧ yr n = nI (ov_rt e n)) {asked : Int32} {post : SY → Prop} (h : ∀ fi' le' be' bo' sa' pa' pq' pv' yt', (∀ j, j < 12 → pa' j = ov_bI (ov_pb e node j)) → ov_YC e (ov_pb e node) asked (ov_rn e (ov_pb e node) node wanted (ov_b e (ov_pb e node) ov_4) (ov_P (ov_b e (ov_pb e node) ov_4) 14)) fi' le' be' bo' sa' → post (nI (ov_nc e), nI (ov_P (ov_b e (ov_pb e node) ov_4) 14), fi', le', be', bo', sa', ov_C (ov_cv e), ov_A (ov_hd e), ov_A (ov_s9 e), ov_A (ov_s3 e), ov_A (ov_s1 e), ov_A (ov_sc e), ov_A (ov_vs e), ov_A (ov_lt e), ov_A (ov_kd e), ov_A (ov_ct e), yq, yr, tk, pa', pq', pv', yt')) : wpY_tryAll post (nI (ov_nc e), to, fi, le, be, bo, sa, ov_C (ov_cv e), ov_A (ov_hd e), ov_A (ov_s9 e), ov_A (ov_s3 e), ov_A (ov_s1 e), ov_A (ov_sc e), ov_A (ov_vs e), ov_A (ov_lt e), ov_A (ov_kd e), ov_A (ov_ct e), yq, yr, tk, pa, pq, pv, yt) (nI node) (nI wanted) asked := by
  have hpb : ov_P1 e (ov_pb e node) node := ⟨hn, ov_pb_pi hw hn⟩
  unfold wpY_tryAll
  dsimp only
  refine oy_mark hw hn hq (fun s hs1 => ?_)
  exact oy_tryAll_loop hw hpb hwa hs1 hq (fun fi' le' be' bo' sa' pq' pv' yt' hy => h _ _ _ _ _ _ _ _ _ hs1 hy)
end
