/-! the questions -/
def ov_bn (t : ov_T) : Nat := if t.1 = 0 then 0 else t.2.2.2 t.2.1
section
variable {e : ov_E} {tk pt op ch ty hs bc bt yq yr pa pq pv yt : Nat → Int32} {so lo to fi le be bo sa : Int32}
theorem ox_ref_1 (hw : ov_W e) {x y : Int32} (h : ¬ ov_in 0 (ov_nc e) x) {post : Int32 → Prop} (hp : post (-1)) : wpX_refusalOfQuestion post (nI (ov_nc e), nI (ov_ac e), so, lo, ov_C (ov_cv e), ov_A (ov_st e), ov_A (ov_sc e), ov_A (ov_hd e), ov_A (ov_vs e), ov_A (ov_lt e), ov_A (ov_kd e), ov_A (ov_ct e), ov_A (ov_lf e), ov_A (ov_rt e), tk, pt, op, ch, ty, hs, bc, bt) x y := by
  unfold wpX_refusalOfQuestion
  dsimp only
  exact ox_isNode_f hw h (br_t rfl hp)
theorem ox_ref_2 (hw : ov_W e) {x y : Int32} (h : ov_in 0 (ov_nc e) x) (h2 : ¬ ov_in 0 4 y) {post : Int32 → Prop} (hp : post (-2)) : wpX_refusalOfQuestion post (nI (ov_nc e), nI (ov_ac e), so, lo, ov_C (ov_cv e), ov_A (ov_st e), ov_A (ov_sc e), ov_A (ov_hd e), ov_A (ov_vs e), ov_A (ov_lt e), ov_A (ov_kd e), ov_A (ov_ct e), ov_A (ov_lf e), ov_A (ov_rt e), tk, pt, op, ch, ty, hs, bc, bt) x y := by
  unfold wpX_refusalOfQuestion
  dsimp only
  refine ox_isNode_t hw h (br_f ov_10 (ox_isType_f (fun z => h2 ?_) (br_t rfl (br_f (fun z => h2 ?_) hp))))
  · obtain ⟨j, a, b, c⟩ := z
    exact ⟨j, a, by omega, c⟩
  · exact ⟨3, by omega, by omega, z⟩
theorem ox_ref_0 (hw : ov_W e) {x y : Int32} (h : ov_in 0 (ov_nc e) x) (h2 : ov_in 0 4 y) {post : Int32 → Prop} (hp : post 0) : wpX_refusalOfQuestion post (nI (ov_nc e), nI (ov_ac e), so, lo, ov_C (ov_cv e), ov_A (ov_st e), ov_A (ov_sc e), ov_A (ov_hd e), ov_A (ov_vs e), ov_A (ov_lt e), ov_A (ov_kd e), ov_A (ov_ct e), ov_A (ov_lf e), ov_A (ov_rt e), tk, pt, op, ch, ty, hs, bc, bt) x y := by
  unfold wpX_refusalOfQuestion
  dsimp only
  refine ox_isNode_t hw h (br_f ov_10 ?_)
  obtain ⟨j, a, b, rfl⟩ := h2
  by_cases hj : j = 3
  · subst hj
    exact ox_isType_f (fun z => by
      obtain ⟨j, _, b', c⟩ := z
      have := (nI_eq (by omega) (by omega)).mp c
      omega) (br_t rfl (br_t rfl hp))
  · exact ox_isType_t ⟨j, a, by omega, rfl⟩ (br_f ov_10 hp)
theorem ox_countOfBest {pb : Nat → Bool} {node wanted n : Nat} {t : ov_T} (hn : n < 2 ^ 31) (hT : ov_TI e pb node wanted n t) (hX : ov_XC e pb t so lo hs bc bt) {post : Int32 → Prop} (hp : post (nI (ov_bn t))) : wpX_countOfBest post (nI (ov_nc e), nI (ov_ac e), so, lo, ov_C (ov_cv e), ov_A (ov_st e), ov_A (ov_sc e), ov_A (ov_hd e), ov_A (ov_vs e), ov_A (ov_lt e), ov_A (ov_kd e), ov_A (ov_ct e), ov_A (ov_lf e), ov_A (ov_rt e), tk, pt, op, ch, ty, hs, bc, bt) := by
  obtain ⟨h1, h2, h3⟩ := hX
  have hT1 := hT.1
  unfold ov_bn at hp
  refine pk_eq t.1 0 (fun h0 => ?_) (fun h0 => ?_) h1 rfl (by omega) (by omega)
  · rw [if_pos h0] at hp; exact hp
  · rw [if_neg h0] at hp
    have h4 := hT.2.2.2 h0
    have hl := (h2 h0).1
    refine ⟨by rw [hl]; exact vp_in_nI h4.1 (by omega), ?_⟩
    rw [hl, nI_clamp (by omega), h3 _ h4.1]
    exact hp
theorem ov_YC_be {pb : Nat → Bool} {asked : Int32} {t : ov_T} (hY : ov_YC e pb asked t fi le be bo sa) : be = nI (ov_bn t) := by
  unfold ov_bn
  by_cases h0 : t.1 = 0
  · rw [if_pos h0]; exact (hY.2.1 h0).2
  · rw [if_neg h0]; exact (hY.2.2.1 h0).2.1
/-- both sides' ends, of one record of the ways -/
theorem ov_both (hw : ov_W e) {node wanted : Nat} (hn : node < ov_nc e) : ∃ t : ov_T, ov_TI e (ov_pb e node) node wanted 268435456 t ∧ ov_rn e (ov_pb e node) node wanted (ov_b e (ov_pb e node) (ov_hc e)) (ov_P (ov_b e (ov_pb e node) (ov_hc e)) 14) = t ∧ ov_rn e (ov_pb e node) node wanted (ov_b e (ov_pb e node) ov_4) (ov_P (ov_b e (ov_pb e node) ov_4) 14) = t := by
  have hpb : ov_P1 e (ov_pb e node) node := ⟨hn, ov_pb_pi hw hn⟩
  have hP := ov_P14 (e := e) (pb := ov_pb e node) (a := ov_4) ov_4_le (Nat.le_refl 14)
  have hT := ov_rn_TI (wanted := wanted) hw hpb (ov_b e (ov_pb e node) ov_4) (ov_P (ov_b e (ov_pb e node) ov_4) 14)
  exact ⟨_, ⟨Nat.le_trans hT.1 hP, hT.2⟩, ov_rn_XY hw hpb wanted, rfl⟩
end
theorem i_vc_solutions {k : Nat} {u : SX} {v : SY} (I : i_Rel k u v) (hk : k + 4 ≤ 2048) (v1 : Int32) (v2 : Int32) : wpX_solutions (fun r u' => wpY_solutions (fun r' v' => r' = r ∧ i_Rel (k + 4) u' v') v v1 v2) u v1 v2 := by
  obtain ⟨e, tk, pt, op, ch, ty, hs, bc, bt, yq, yr, pa, pq, pv, yt, so, lo, to, fi, le, be, bo, sa, rfl, rfl, hw, hq⟩ := I
  have R0 : i_Rel (k + 4) (nI (ov_nc e), nI (ov_ac e), so, lo, ov_C (ov_cv e), ov_A (ov_st e), ov_A (ov_sc e), ov_A (ov_hd e), ov_A (ov_vs e), ov_A (ov_lt e), ov_A (ov_kd e), ov_A (ov_ct e), ov_A (ov_lf e), ov_A (ov_rt e), tk, pt, op, ch, ty, hs, bc, bt) (nI (ov_nc e), to, fi, le, be, bo, sa, ov_C (ov_cv e), ov_A (ov_hd e), ov_A (ov_s9 e), ov_A (ov_s3 e), ov_A (ov_s1 e), ov_A (ov_sc e), ov_A (ov_vs e), ov_A (ov_lt e), ov_A (ov_kd e), ov_A (ov_ct e), yq, yr, tk, pa, pq, pv, yt) := ov_mkR hw hq
  unfold wpX_solutions wpY_solutions
  dsimp only
  by_cases h1 : ov_in 0 (ov_nc e) v1
  · by_cases h2 : ov_in 0 4 v2
    · refine ox_ref_0 hw h1 h2 (br_t rfl ?_)
      have h1' := h1
      have h2' := h2
      obtain ⟨node, _, hn, rfl⟩ := h1
      obtain ⟨wanted, _, hwa, rfl⟩ := h2
      obtain ⟨t, hT, tX, tY⟩ := ov_both (wanted := wanted) hw hn
      refine ox_survey hw hn (by omega) (fun so' lo' pt' op' ch' ty' hs' bc' bt' hpt hX => ?_)
      rw [tX] at hX
      refine oy_badNode_t hw h1' (br_t rfl (ov_yt 0 3 h2' (oy_tryAll hw hn (by omega) hq (fun fi' le' be' bo' sa' pa' pq' pv' yt' hpa hY => ?_))))
      rw [tY] at hY
      exact ⟨hY.1.trans hX.1.symm, ov_mkR hw hq⟩
    · exact ox_ref_2 hw h1 h2 (br_f (by decide) (oy_badNode_t hw h1 (br_t rfl (ov_yf 0 3 h2 ⟨rfl, R0⟩ ⟨rfl, R0⟩))))
  · exact ox_ref_1 hw h1 (br_f (by decide) (oy_badNode_f hw h1 (br_f ov_10 ⟨rfl, R0⟩)))
theorem i_vc_leastCost {k : Nat} {u : SX} {v : SY} (I : i_Rel k u v) (hk : k + 4 ≤ 2048) (v1 : Int32) (v2 : Int32) : wpX_leastCost (fun r u' => wpY_leastCost (fun r' v' => r' = r ∧ i_Rel (k + 4) u' v') v v1 v2) u v1 v2 := by
  obtain ⟨e, tk, pt, op, ch, ty, hs, bc, bt, yq, yr, pa, pq, pv, yt, so, lo, to, fi, le, be, bo, sa, rfl, rfl, hw, hq⟩ := I
  have R0 : i_Rel (k + 4) (nI (ov_nc e), nI (ov_ac e), so, lo, ov_C (ov_cv e), ov_A (ov_st e), ov_A (ov_sc e), ov_A (ov_hd e), ov_A (ov_vs e), ov_A (ov_lt e), ov_A (ov_kd e), ov_A (ov_ct e), ov_A (ov_lf e), ov_A (ov_rt e), tk, pt, op, ch, ty, hs, bc, bt) (nI (ov_nc e), to, fi, le, be, bo, sa, ov_C (ov_cv e), ov_A (ov_hd e), ov_A (ov_s9 e), ov_A (ov_s3 e), ov_A (ov_s1 e), ov_A (ov_sc e), ov_A (ov_vs e), ov_A (ov_lt e), ov_A (ov_kd e), ov_A (ov_ct e), yq, yr, tk, pa, pq, pv, yt) := ov_mkR hw hq
  unfold wpX_leastCost wpY_leastCost
  dsimp only
  by_cases h1 : ov_in 0 (ov_nc e) v1
  · by_cases h2 : ov_in 0 4 v2
    · refine ox_ref_0 hw h1 h2 (br_t rfl ?_)
      have h1' := h1
      have h2' := h2
      obtain ⟨node, _, hn, rfl⟩ := h1
      obtain ⟨wanted, _, hwa, rfl⟩ := h2
      obtain ⟨t, hT, tX, tY⟩ := ov_both (wanted := wanted) hw hn
      refine ox_survey hw hn (by omega) (fun so' lo' pt' op' ch' ty' hs' bc' bt' hpt hX => ?_)
      rw [tX] at hX
      have hT1 := hT.1
      refine pk_eq t.1 0 (fun h0 => ?_) (fun h0 => ?_) hX.1 rfl (by omega) (by omega)
      · refine oy_badNode_t hw h1' (br_t rfl (ov_yt 0 3 h2' (oy_tryAll hw hn (by omega) hq (fun fi' le' be' bo' sa' pa' pq' pv' yt' hpa hY => ?_))))
        rw [tY] at hY
        exact ⟨(hY.2.1 h0).1, ov_mkR hw hq⟩
      · refine oy_badNode_t hw h1' (br_t rfl (ov_yt 0 3 h2' (oy_tryAll hw hn (by omega) hq (fun fi' le' be' bo' sa' pa' pq' pv' yt' hpa hY => ?_))))
        rw [tY] at hY
        exact ⟨(hY.2.2.1 h0).1.trans (hX.2.1 h0).1.symm, ov_mkR hw hq⟩
    · exact ox_ref_2 hw h1 h2 (br_f (by decide) (oy_badNode_t hw h1 (br_t rfl (ov_yf 0 3 h2 ⟨rfl, R0⟩ ⟨rfl, R0⟩))))
  · exact ox_ref_1 hw h1 (br_f (by decide) (oy_badNode_f hw h1 (br_f ov_10 ⟨rfl, R0⟩)))
theorem i_vc_bestCount {k : Nat} {u : SX} {v : SY} (I : i_Rel k u v) (hk : k + 4 ≤ 2048) (v1 : Int32) (v2 : Int32) : wpX_bestCount (fun r u' => wpY_bestCount (fun r' v' => r' = r ∧ i_Rel (k + 4) u' v') v v1 v2) u v1 v2 := by
  obtain ⟨e, tk, pt, op, ch, ty, hs, bc, bt, yq, yr, pa, pq, pv, yt, so, lo, to, fi, le, be, bo, sa, rfl, rfl, hw, hq⟩ := I
  have R0 : i_Rel (k + 4) (nI (ov_nc e), nI (ov_ac e), so, lo, ov_C (ov_cv e), ov_A (ov_st e), ov_A (ov_sc e), ov_A (ov_hd e), ov_A (ov_vs e), ov_A (ov_lt e), ov_A (ov_kd e), ov_A (ov_ct e), ov_A (ov_lf e), ov_A (ov_rt e), tk, pt, op, ch, ty, hs, bc, bt) (nI (ov_nc e), to, fi, le, be, bo, sa, ov_C (ov_cv e), ov_A (ov_hd e), ov_A (ov_s9 e), ov_A (ov_s3 e), ov_A (ov_s1 e), ov_A (ov_sc e), ov_A (ov_vs e), ov_A (ov_lt e), ov_A (ov_kd e), ov_A (ov_ct e), yq, yr, tk, pa, pq, pv, yt) := ov_mkR hw hq
  unfold wpX_bestCount wpY_bestCount
  dsimp only
  by_cases h1 : ov_in 0 (ov_nc e) v1
  · by_cases h2 : ov_in 0 4 v2
    · refine ox_ref_0 hw h1 h2 (br_t rfl ?_)
      have h1' := h1
      have h2' := h2
      obtain ⟨node, _, hn, rfl⟩ := h1
      obtain ⟨wanted, _, hwa, rfl⟩ := h2
      obtain ⟨t, hT, tX, tY⟩ := ov_both (wanted := wanted) hw hn
      refine ox_survey hw hn (by omega) (fun so' lo' pt' op' ch' ty' hs' bc' bt' hpt hX => ?_)
      rw [tX] at hX
      refine ox_countOfBest (by omega) hT hX ?_
      refine oy_badNode_t hw h1' (br_t rfl (ov_yt 0 3 h2' (oy_tryAll hw hn (by omega) hq (fun fi' le' be' bo' sa' pa' pq' pv' yt' hpa hY => ?_))))
      rw [tY] at hY
      exact ⟨ov_YC_be hY, ov_mkR hw hq⟩
    · exact ox_ref_2 hw h1 h2 (br_f (by decide) (oy_badNode_t hw h1 (br_t rfl (ov_yf 0 3 h2 ⟨rfl, R0⟩ ⟨rfl, R0⟩))))
  · exact ox_ref_1 hw h1 (br_f (by decide) (oy_badNode_f hw h1 (br_f ov_10 ⟨rfl, R0⟩)))
theorem i_vc_withCost {k : Nat} {u : SX} {v : SY} (I : i_Rel k u v) (hk : k + 4 ≤ 2048) (v1 : Int32) (v2 : Int32) (v3 : Int32) : wpX_withCost (fun r u' => wpY_withCost (fun r' v' => r' = r ∧ i_Rel (k + 4) u' v') v v1 v2 v3) u v1 v2 v3 := by
  obtain ⟨e, tk, pt, op, ch, ty, hs, bc, bt, yq, yr, pa, pq, pv, yt, so, lo, to, fi, le, be, bo, sa, rfl, rfl, hw, hq⟩ := I
  have R0 : i_Rel (k + 4) (nI (ov_nc e), nI (ov_ac e), so, lo, ov_C (ov_cv e), ov_A (ov_st e), ov_A (ov_sc e), ov_A (ov_hd e), ov_A (ov_vs e), ov_A (ov_lt e), ov_A (ov_kd e), ov_A (ov_ct e), ov_A (ov_lf e), ov_A (ov_rt e), tk, pt, op, ch, ty, hs, bc, bt) (nI (ov_nc e), to, fi, le, be, bo, sa, ov_C (ov_cv e), ov_A (ov_hd e), ov_A (ov_s9 e), ov_A (ov_s3 e), ov_A (ov_s1 e), ov_A (ov_sc e), ov_A (ov_vs e), ov_A (ov_lt e), ov_A (ov_kd e), ov_A (ov_ct e), yq, yr, tk, pa, pq, pv, yt) := ov_mkR hw hq
  unfold wpX_withCost wpY_withCost
  dsimp only
  by_cases h1 : ov_in 0 (ov_nc e) v1
  · by_cases h2 : ov_in 0 4 v2
    · refine ox_ref_0 hw h1 h2 (br_t rfl ?_)
      have h1' := h1
      have h2' := h2
      obtain ⟨node, _, hn, rfl⟩ := h1
      obtain ⟨wanted, _, hwa, rfl⟩ := h2
      obtain ⟨t, hT, tX, tY⟩ := ov_both (wanted := wanted) hw hn
      by_cases h3 : ov_in 0 127 v3
      · refine ov_zt 0 127 h3 ?_
        obtain ⟨a, _, ha, rfl⟩ := h3
        refine ox_survey hw hn (by omega) (fun so' lo' pt' op' ch' ty' hs' bc' bt' hpt hX => ?_)
        rw [tX] at hX
        refine ⟨vp_in_nI ha (by omega), ?_⟩
        refine oy_badNode_t hw h1' (br_t rfl (ov_yt 0 3 h2' (oy_tryAll hw hn (by omega) hq (fun fi' le' be' bo' sa' pa' pq' pv' yt' hpa hY => ?_))))
        rw [tY] at hY
        exact ⟨(hY.2.2.2.1 a ha rfl).trans (by rw [nI_clamp (by omega)]; exact (hX.2.2 a ha).symm), ov_mkR hw hq⟩
      · have hno : ∀ a, a < 127 → ¬ v3 = nI a := fun a ha hv => h3 ⟨a, Nat.zero_le _, ha, hv⟩
        refine ov_zf 0 127 h3 ?_ ?_
        · refine oy_badNode_t hw h1' (br_t rfl (ov_yt 0 3 h2' (oy_tryAll hw hn (by omega) hq (fun fi' le' be' bo' sa' pa' pq' pv' yt' hpa hY => ?_))))
          exact ⟨hY.2.2.2.2 hno, ov_mkR hw hq⟩
        · refine oy_badNode_t hw h1' (br_t rfl (ov_yt 0 3 h2' (oy_tryAll hw hn (by omega) hq (fun fi' le' be' bo' sa' pa' pq' pv' yt' hpa hY => ?_))))
          exact ⟨hY.2.2.2.2 hno, ov_mkR hw hq⟩
    · exact ox_ref_2 hw h1 h2 (br_f (by decide) (oy_badNode_t hw h1 (br_t rfl (ov_yf 0 3 h2 ⟨rfl, R0⟩ ⟨rfl, R0⟩))))
  · exact ox_ref_1 hw h1 (br_f (by decide) (oy_badNode_f hw h1 (br_f ov_10 ⟨rfl, R0⟩)))
