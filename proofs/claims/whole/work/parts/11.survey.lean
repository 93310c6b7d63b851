/-! X: the survey -/
section
variable {e : ov_E} {tk pt op ch ty hs bc bt : Nat → Int32} {so lo : Int32}
theorem ox_survey_loop (hw : ov_W e) {pb : Nat → Bool} {node wanted : Nat} (hpb : ov_P1 e pb node) (hwa : wanted ≤ 3) (hpt : ∀ j, j < 12 → pt j = ov_bI (pb j)) (hop : ∀ j, j < 14 → op j = nI (ov_b e pb (ov_hc e) j)) (hch : ∀ j, j < 14 → ch j = 0) (hhs : ∀ j, j < 127 → hs j = 0) {post : SX → Prop} (h : ∀ so' lo' ch' ty' hs' bc' bt', ov_XC e pb (ov_rn e pb node wanted (ov_b e pb (ov_hc e)) (ov_P (ov_b e pb (ov_hc e)) 14)) so' lo' hs' bc' bt' → post (nI (ov_nc e), nI (ov_ac e), so', lo', ov_C (ov_cv e), ov_A (ov_st e), ov_A (ov_sc e), ov_A (ov_hd e), ov_A (ov_vs e), ov_A (ov_lt e), ov_A (ov_kd e), ov_A (ov_ct e), ov_A (ov_lf e), ov_A (ov_rt e), tk, pt, op, ch', ty', hs', bc', bt')) : ∃ n, wX_survey_21 post (nI node) (nI wanted) (nI (ov_P (ov_b e pb (ov_hc e)) 14)) n 0 (nI (ov_nc e)) (nI (ov_ac e)) 0 (-1) (ov_C (ov_cv e)) (ov_A (ov_st e)) (ov_A (ov_sc e)) (ov_A (ov_hd e)) (ov_A (ov_vs e)) (ov_A (ov_lt e)) (ov_A (ov_kd e)) (ov_A (ov_ct e)) (ov_A (ov_lf e)) (ov_A (ov_rt e)) tk pt op ch ty hs bc bt := by
  have hP := ov_P14 (e := e) (pb := pb) (ov_hc_le hw) (Nat.le_refl 14)
  refine loop_0 (fun n w (s : Int32 × Int32 × (Nat → Int32) × (Nat → Int32) × (Nat → Int32) × (Nat → Int32) × (Nat → Int32)) => wX_survey_21 post (nI node) (nI wanted) (nI (ov_P (ov_b e pb (ov_hc e)) 14)) n (nI w) (nI (ov_nc e)) (nI (ov_ac e)) s.1 s.2.1 (ov_C (ov_cv e)) (ov_A (ov_st e)) (ov_A (ov_sc e)) (ov_A (ov_hd e)) (ov_A (ov_vs e)) (ov_A (ov_lt e)) (ov_A (ov_kd e)) (ov_A (ov_ct e)) (ov_A (ov_lf e)) (ov_A (ov_rt e)) tk pt op s.2.2.1 s.2.2.2.1 s.2.2.2.2.1 s.2.2.2.2.2.1 s.2.2.2.2.2.2)
    (fun w s => (∀ j, j < 14 → s.2.2.1 j = nI (ov_dg (ov_b e pb (ov_hc e)) w j)) ∧ ov_XC e pb (ov_rn e pb node wanted (ov_b e pb (ov_hc e)) w) s.1 s.2.1 s.2.2.2.2.1 s.2.2.2.2.2.1 s.2.2.2.2.2.2)
    (ov_P (ov_b e pb (ov_hc e)) 14) (0, -1, ch, ty, hs, bc, bt) ⟨fun j hj => ?_, rfl, fun z => absurd rfl z, fun j hj => (hhs j hj)⟩ (fun n s hI => ?_) (fun n w s hw' hI hk => ?_)
  · have : ov_dg (ov_b e pb (ov_hc e)) 0 j = 0 := by unfold ov_dg; rw [Nat.zero_div, Nat.zero_mod]
    rw [this]; exact hch j hj
  · exact br_t (nI_le (Nat.le_refl _) (by omega)) (h _ _ _ _ _ _ _ hI.2)
  · obtain ⟨so1, lo1, ch1, ty1, hs1, bc1, bt1⟩ := s
    obtain ⟨hc1, hx1⟩ := hI
    dsimp only at hc1 hx1
    have hlt : ∀ j, j < 14 → ov_rd (ov_b e pb (ov_hc e)) 14 w ov_z j < ov_b e pb (ov_hc e) j := fun j hj => ov_rd_lt hw' hj
    have hD := ov_D_of hw hpb (ov_hc_le hw) hlt
    have hc2 : ∀ j, j < 14 → ch1 j = nI (ov_rd (ov_b e pb (ov_hc e)) 14 w ov_z j) := fun j hj => by rw [ov_rd_dg hj]; exact hc1 j hj
    refine br_f (nI_ge hw' (by omega)) (ox_costOfChoices hw hpb hwa hpt hD hc2 (fun n hn h3 => ?_) (fun ty' hty' => ?_))
    · have h1 := hpb.2.1 n hn
      have h2 := hpb.1
      have h12 := hw.1
      have := hlt n (by omega)
      rw [ov_b_3 (by omega) hn h3] at this
      exact this
    · have next : ∀ so2 lo2 hs2 bc2 bt2, ov_XC e pb (ov_rn e pb node wanted (ov_b e pb (ov_hc e)) (w + 1)) so2 lo2 hs2 bc2 bt2 → wX_survey_47 post (wX_survey_21 post (nI node) (nI wanted) (nI (ov_P (ov_b e pb (ov_hc e)) 14)) n) (nI node) (nI wanted) (nI (ov_P (ov_b e pb (ov_hc e)) 14)) (nI w) (nI (ov_nc e)) (nI (ov_ac e)) so2 lo2 (ov_C (ov_cv e)) (ov_A (ov_st e)) (ov_A (ov_sc e)) (ov_A (ov_hd e)) (ov_A (ov_vs e)) (ov_A (ov_lt e)) (ov_A (ov_kd e)) (ov_A (ov_ct e)) (ov_A (ov_lf e)) (ov_A (ov_rt e)) tk pt op ch1 ty' hs2 bc2 bt2 := fun so2 lo2 hs2 bc2 bt2 hx2 =>
        ox_nextChoices (ov_b_le (ov_hc_le hw)) hop hw' hc1 (fun c hc => nm_r (nI_1 _) (hk (so2, lo2, c, ty', hs2, bc2, bt2) ⟨hc, hx2⟩))
      rw [ov_rn_s] at next
      cases hco : ov_co e pb node wanted (ov_rd (ov_b e pb (ov_hc e)) 14 w ov_z) with
      | none =>
        rw [ov_en_n hco] at next
        exact br_t rfl (next _ _ _ _ _ hx1)
      | some c =>
        have hc127 := ov_co_le hw hpb hco
        refine br_f (ov_m1n (by omega)) ?_
        exact ox_note hw hpb (n := w) (by omega) (ov_rn_TI hw hpb _ w) hx1 hco (fun j hj => hc2 j (by omega)) (hty' c hco) next
theorem ox_survey (hw : ov_W e) {node wanted : Nat} (hn : node < ov_nc e) (hwa : wanted ≤ 3) {post : SX → Prop} (h : ∀ so' lo' pt' op' ch' ty' hs' bc' bt', (∀ j, j < 12 → pt' j = ov_bI (ov_pb e node j)) → ov_XC e (ov_pb e node) (ov_rn e (ov_pb e node) node wanted (ov_b e (ov_pb e node) (ov_hc e)) (ov_P (ov_b e (ov_pb e node) (ov_hc e)) 14)) so' lo' hs' bc' bt' → post (nI (ov_nc e), nI (ov_ac e), so', lo', ov_C (ov_cv e), ov_A (ov_st e), ov_A (ov_sc e), ov_A (ov_hd e), ov_A (ov_vs e), ov_A (ov_lt e), ov_A (ov_kd e), ov_A (ov_ct e), ov_A (ov_lf e), ov_A (ov_rt e), tk, pt', op', ch', ty', hs', bc', bt')) : wpX_survey post (nI (ov_nc e), nI (ov_ac e), so, lo, ov_C (ov_cv e), ov_A (ov_st e), ov_A (ov_sc e), ov_A (ov_hd e), ov_A (ov_vs e), ov_A (ov_lt e), ov_A (ov_kd e), ov_A (ov_ct e), ov_A (ov_lf e), ov_A (ov_rt e), tk, pt, op, ch, ty, hs, bc, bt) (nI node) (nI wanted) := by
  have hpb : ov_P1 e (ov_pb e node) node := ⟨hn, ov_pb_pi hw hn⟩
  unfold wpX_survey
  dsimp only
  refine ox_mark hw hn (fun s hs1 => ?_)
  dsimp only
  refine ox_setOptions hw hpb hs1 (fun o c ho hc => ?_)
  dsimp only
  refine ox_forgetSolutions (fun hs2 hh => ?_)
  dsimp only
  refine ox_waysToChoose ho ?_
  exact ox_survey_loop hw hpb hwa hs1 ho hc hh (fun so' lo' ch' ty' hs' bc' bt' hx => h _ _ _ _ _ _ _ _ _ hs1 hx)
end
