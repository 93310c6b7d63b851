/-! chosen and typeOf -/
theorem ov_bn_1 {e : ov_E} {pb : Nat → Bool} {node wanted n : Nat} {t : ov_T} (hT : ov_TI e pb node wanted n t) (h : ov_bn t = 1) : t.1 ≠ 0 ∧ t.2.1 < 127 ∧ ov_co e pb node wanted t.2.2.1 = some t.2.1 := by
  have h0 : t.1 ≠ 0 := fun z => by
    unfold ov_bn at h
    rw [if_pos z] at h
    omega
  have h4 := hT.2.2.2 h0
  exact ⟨h0, h4.1, h4.2.2.2⟩
theorem ov_bn_lt {e : ov_E} {pb : Nat → Bool} {node wanted : Nat} {t : ov_T} (hT : ov_TI e pb node wanted 268435456 t) : ov_bn t < 2 ^ 31 := by
  have h1 := hT.1
  have h2 := hT.2.1 t.2.1
  unfold ov_bn
  split <;> omega
theorem i_vc_typeOf {k : Nat} {u : SX} {v : SY} (I : i_Rel k u v) (hk : k + 4 ≤ 2048) (v1 : Int32) (v2 : Int32) : wpX_typeOf (fun r u' => wpY_typeOf (fun r' v' => r' = r ∧ i_Rel (k + 4) u' v') v v1 v2) u v1 v2 := by
  obtain ⟨e, tk, pt, op, ch, ty, hs, bc, bt, yq, yr, pa, pq, pv, yt, so, lo, to, fi, le, be, bo, sa, rfl, rfl, hw, hq⟩ := I
  have R0 : i_Rel (k + 4) (nI (ov_nc e), nI (ov_ac e), so, lo, ov_C (ov_cv e), ov_A (ov_st e), ov_A (ov_sc e), ov_A (ov_hd e), ov_A (ov_vs e), ov_A (ov_lt e), ov_A (ov_kd e), ov_A (ov_ct e), ov_A (ov_lf e), ov_A (ov_rt e), tk, pt, op, ch, ty, hs, bc, bt) (nI (ov_nc e), to, fi, le, be, bo, sa, ov_C (ov_cv e), ov_A (ov_hd e), ov_A (ov_s9 e), ov_A (ov_s3 e), ov_A (ov_s1 e), ov_A (ov_sc e), ov_A (ov_vs e), ov_A (ov_lt e), ov_A (ov_kd e), ov_A (ov_ct e), yq, yr, tk, pa, pq, pv, yt) := ov_mkR hw hq
  have h12 := hw.1
  unfold wpX_typeOf wpY_typeOf
  dsimp only
  by_cases h1 : ov_in 0 (ov_nc e) v1
  · by_cases h2 : ov_in 0 4 v2
    · refine ox_ref_0 hw h1 h2 (br_t rfl ?_)
      have h1' := h1
      have h2' := h2
      obtain ⟨node, _, hn, rfl⟩ := h1
      obtain ⟨wanted, _, hwa, rfl⟩ := h2
      obtain ⟨t, hT, tX, tY⟩ := ov_both (wanted := wanted) hw hn
      have hpb : ov_P1 e (ov_pb e node) node := ⟨hn, ov_pb_pi hw hn⟩
      have hbl := ov_bn_lt hT
      have hvn : vp_in (nI node) 12 := vp_in_nI (by omega) (by omega)
      refine ox_survey hw hn (by omega) (fun so' lo' pt' op' ch' ty' hs' bc' bt' hpt hX => ?_)
      rw [tX] at hX
      refine ox_countOfBest (by omega) hT hX (pk_eq (ov_bn t) 1 (fun hb1 => ⟨hvn, ?_⟩) (fun hb1 => ?_))
      · refine oy_badNode_t hw h1' (br_t rfl (ov_yt 0 3 h2' (oy_tryAll hw hn (by omega) hq (fun fi' le' be' bo' sa' pa' pq' pv' yt' hpa hY => ?_))))
        rw [tY] at hY
        obtain ⟨hz, hl127, hco⟩ := ov_bn_1 hT hb1
        obtain ⟨_, _, c, hc, hbo, hbd⟩ := hY.2.2.1 hz
        have hbe := ov_YC_be hY
        rw [hb1] at hbe
        refine br_t hbe ?_
        rw [hbo]
        rw [hbd] at hco
        have hlt : ∀ j, j < 14 → ov_rd (ov_b e (ov_pb e node) ov_4) 14 c ov_z j < ov_b e (ov_pb e node) ov_4 j := fun j hj => ov_rd_lt hc hj
        have hD := ov_D_of hw hpb ov_4_le hlt
        have hG := ov_co_G hw hpb hco
        refine oy_read hw hpb hpa hc (fun pq2 pv2 hpq hpv => ?_)
        refine oy_price hw hpb (by omega) hpa hq hD hG hpq hpv (fun yt2 hyt => ?_)
        rw [(ov_gG_t hw hpb).mpr hG, hco]
        have e1 : yt2 (nI node).toNatClampNeg = bt' (nI node).toNatClampNeg := by
          rw [nI_clamp (by omega), hyt _ hco node hpb.2.2.1, (hX.2.1 hz).2.2 node hpb.2.2.1, hbd]
        exact br_f ov_10 (br_t (nI_pos' (by omega)) ⟨hvn, e1, ov_mkR hw hq⟩)
      · refine oy_badNode_t hw h1' (br_t rfl (ov_yt 0 3 h2' (oy_tryAll hw hn (by omega) hq (fun fi' le' be' bo' sa' pa' pq' pv' yt' hpa hY => ?_))))
        rw [tY] at hY
        exact pk_eq (ov_bn t) 1 (fun z => absurd z hb1) (fun _ => ⟨rfl, ov_mkR hw hq⟩) (ov_YC_be hY) rfl (by omega) (by omega)
    · exact ox_ref_2 hw h1 h2 (br_f (by decide) (oy_badNode_t hw h1 (br_t rfl (ov_yf 0 3 h2 ⟨rfl, R0⟩ ⟨rfl, R0⟩))))
  · exact ox_ref_1 hw h1 (br_f (by decide) (oy_badNode_f hw h1 (br_f ov_10 ⟨rfl, R0⟩)))
theorem i_vc_chosen {k : Nat} {u : SX} {v : SY} (I : i_Rel k u v) (hk : k + 4 ≤ 2048) (v1 : Int32) (v2 : Int32) (v3 : Int32) : wpX_chosen (fun r u' => wpY_chosen (fun r' v' => r' = r ∧ i_Rel (k + 4) u' v') v v1 v2 v3) u v1 v2 v3 := by
  obtain ⟨e, tk, pt, op, ch, ty, hs, bc, bt, yq, yr, pa, pq, pv, yt, so, lo, to, fi, le, be, bo, sa, rfl, rfl, hw, hq⟩ := I
  have R0 : i_Rel (k + 4) (nI (ov_nc e), nI (ov_ac e), so, lo, ov_C (ov_cv e), ov_A (ov_st e), ov_A (ov_sc e), ov_A (ov_hd e), ov_A (ov_vs e), ov_A (ov_lt e), ov_A (ov_kd e), ov_A (ov_ct e), ov_A (ov_lf e), ov_A (ov_rt e), tk, pt, op, ch, ty, hs, bc, bt) (nI (ov_nc e), to, fi, le, be, bo, sa, ov_C (ov_cv e), ov_A (ov_hd e), ov_A (ov_s9 e), ov_A (ov_s3 e), ov_A (ov_s1 e), ov_A (ov_sc e), ov_A (ov_vs e), ov_A (ov_lt e), ov_A (ov_kd e), ov_A (ov_ct e), yq, yr, tk, pa, pq, pv, yt) := ov_mkR hw hq
  have h12 := hw.1
  unfold wpX_chosen wpY_chosen
  dsimp only
  by_cases h1 : ov_in 0 (ov_nc e) v1
  · by_cases h2 : ov_in 0 4 v2
    · refine ox_ref_0 hw h1 h2 (br_t rfl ?_)
      have h1' := h1
      have h2' := h2
      obtain ⟨node, _, hn, rfl⟩ := h1
      obtain ⟨wanted, _, hwa, rfl⟩ := h2
      obtain ⟨t, hT, tX, tY⟩ := ov_both (wanted := wanted) hw hn
      have hpb : ov_P1 e (ov_pb e node) node := ⟨hn, ov_pb_pi hw hn⟩
      have hbl := ov_bn_lt hT
      refine ox_survey hw hn (by omega) (fun so' lo' pt' op' ch' ty' hs' bc' bt' hpt hX => ?_)
      rw [tX] at hX
      by_cases h3 : ov_in 0 (ov_nc e) v3
      · refine ox_isNode_t hw h3 (br_f ov_10 ?_)
        have h3' := h3
        obtain ⟨p, _, hp, rfl⟩ := h3
        have hvp : vp_in (nI p) 12 := vp_in_nI (by omega) (by omega)
        have hN := hw.2.2.2.2.2.2.2.2.1 p hp
        have hk3 := hN.1
        refine ⟨hvp, ov_pc (b := ov_pb e node p) (by rw [nI_clamp (by omega)]; exact hpt p (by omega)) (fun hb => ?_) (fun hb => ?_)⟩
        · refine oy_badNode_t hw h1' (br_t rfl (ov_yt 0 3 h2' (oy_mark hw hn hq (fun s hs1 => ?_))))
          refine oy_badNode_t hw h3' (br_t rfl ⟨hvp, ov_pc (b := ov_pb e node p) (by rw [nI_clamp (by omega)]; exact hs1 p (by omega)) (fun _ => ⟨rfl, ov_mkR hw hq⟩) (fun z => by rw [hb] at z; exact absurd z Bool.false_ne_true)⟩)
        · refine ox_countOfBest (by omega) hT hX (pk_eq (ov_bn t) 1 (fun hb1 => ?_) (fun hb1 => ?_))
          · obtain ⟨hz, hl127, hco⟩ := ov_bn_1 hT hb1
            refine ⟨hvp, pk_eq (ov_kd e p) 3 (fun h33 => ?_) (fun h33 => ?_) (ov_AV (by omega)) rfl (by omega) (by omega)⟩
            · refine ⟨hvp, ?_⟩
              refine oy_badNode_t hw h1' (br_t rfl (ov_yt 0 3 h2' (oy_mark hw hn hq (fun s hs1 => ?_))))
              refine oy_badNode_t hw h3' (br_t rfl ⟨hvp, ov_pc (b := ov_pb e node p) (by rw [nI_clamp (by omega)]; exact hs1 p (by omega)) (fun z => by rw [hb] at z; exact absurd z.symm Bool.false_ne_true) (fun _ => ?_)⟩)
              refine oy_tryAll hw hn (by omega) hq (fun fi' le' be' bo' sa' pa' pq' pv' yt' hpa hY => ?_)
              rw [tY] at hY
              obtain ⟨_, _, c, hc, hbo, hbd⟩ := hY.2.2.1 hz
              have hbe := ov_YC_be hY
              rw [hb1] at hbe
              refine br_t hbe ?_
              rw [hbo]
              rw [hbd] at hco
              have hlt : ∀ j, j < 14 → ov_rd (ov_b e (ov_pb e node) ov_4) 14 c ov_z j < ov_b e (ov_pb e node) ov_4 j := fun j hj => ov_rd_lt hc hj
              have hD := ov_D_of hw hpb ov_4_le hlt
              have hG := ov_co_G hw hpb hco
              refine oy_read hw hpb hpa hc (fun pq2 pv2 hpq hpv => ?_)
              refine oy_price hw hpb (by omega) hpa hq hD hG hpq hpv (fun yt2 hyt => ?_)
              rw [(ov_gG_t hw hpb).mpr hG, hco]
              have e1 : pq2 (nI p).toNatClampNeg = bc' (nI p).toNatClampNeg := by
                rw [nI_clamp (by omega), hpq p hp, (hX.2.1 hz).2.1 p (by omega), hbd]
              exact br_f ov_10 (br_t (nI_pos' (by omega)) ⟨hvp, pk_eq (ov_kd e p) 3 (fun _ => ⟨hvp, e1, ov_mkR hw hq⟩) (fun z => absurd h33 z) (ov_AV (by omega)) rfl (by omega) (by omega)⟩)
            · refine ⟨hvp, ?_⟩
              refine oy_badNode_t hw h1' (br_t rfl (ov_yt 0 3 h2' (oy_mark hw hn hq (fun s hs1 => ?_))))
              refine oy_badNode_t hw h3' (br_t rfl ⟨hvp, ov_pc (b := ov_pb e node p) (by rw [nI_clamp (by omega)]; exact hs1 p (by omega)) (fun z => by rw [hb] at z; exact absurd z.symm Bool.false_ne_true) (fun _ => ?_)⟩)
              refine oy_tryAll hw hn (by omega) hq (fun fi' le' be' bo' sa' pa' pq' pv' yt' hpa hY => ?_)
              rw [tY] at hY
              obtain ⟨_, _, c, hc, hbo, hbd⟩ := hY.2.2.1 hz
              have hbe := ov_YC_be hY
              rw [hb1] at hbe
              refine br_t hbe ?_
              rw [hbo]
              rw [hbd] at hco
              have hlt : ∀ j, j < 14 → ov_rd (ov_b e (ov_pb e node) ov_4) 14 c ov_z j < ov_b e (ov_pb e node) ov_4 j := fun j hj => ov_rd_lt hc hj
              have hD := ov_D_of hw hpb ov_4_le hlt
              have hG := ov_co_G hw hpb hco
              refine oy_read hw hpb hpa hc (fun pq2 pv2 hpq hpv => ?_)
              refine oy_price hw hpb (by omega) hpa hq hD hG hpq hpv (fun yt2 hyt => ?_)
              rw [(ov_gG_t hw hpb).mpr hG, hco]
              have e1 : yt2 (nI p).toNatClampNeg = bt' (nI p).toNatClampNeg := by
                rw [nI_clamp (by omega), hyt _ hco p hb, (hX.2.1 hz).2.2 p hb, hbd]
              exact br_f ov_10 (br_t (nI_pos' (by omega)) ⟨hvp, pk_eq (ov_kd e p) 3 (fun z => absurd z h33) (fun _ => ⟨hvp, e1, ov_mkR hw hq⟩) (ov_AV (by omega)) rfl (by omega) (by omega)⟩)
          · refine oy_badNode_t hw h1' (br_t rfl (ov_yt 0 3 h2' (oy_mark hw hn hq (fun s hs1 => ?_))))
            refine oy_badNode_t hw h3' (br_t rfl ⟨hvp, ov_pc (b := ov_pb e node p) (by rw [nI_clamp (by omega)]; exact hs1 p (by omega)) (fun z => by rw [hb] at z; exact absurd z.symm Bool.false_ne_true) (fun _ => ?_)⟩)
            refine oy_tryAll hw hn (by omega) hq (fun fi' le' be' bo' sa' pa' pq' pv' yt' hpa hY => ?_)
            rw [tY] at hY
            exact pk_eq (ov_bn t) 1 (fun z => absurd z hb1) (fun _ => ⟨rfl, ov_mkR hw hq⟩) (ov_YC_be hY) rfl (by omega) (by omega)
      · refine ox_isNode_f hw h3 (br_t rfl ?_)
        refine oy_badNode_t hw h1' (br_t rfl (ov_yt 0 3 h2' (oy_mark hw hn hq (fun s hs1 => ?_))))
        exact oy_badNode_f hw h3 (br_f ov_10 ⟨rfl, ov_mkR hw hq⟩)
    · exact ox_ref_2 hw h1 h2 (br_f (by decide) (oy_badNode_t hw h1 (br_t rfl (ov_yf 0 3 h2 ⟨rfl, R0⟩ ⟨rfl, R0⟩))))
  · exact ox_ref_1 hw h1 (br_f (by decide) (oy_badNode_f hw h1 (br_f ov_10 ⟨rfl, R0⟩)))
