theorem ov_mkO {x : Int32} (h : ov_in 0 10 x) : ∃ c, c ≤ 9 ∧ x = ov_o (some c) := by
  obtain ⟨j, _, hj, rfl⟩ := h
  exact ⟨j, by omega, rfl⟩
section
variable {e : ov_E} {tk pt op ch ty hs bc bt yq yr pa pq pv yt : Nat → Int32} {so lo to fi le be bo sa : Int32}
theorem ox_convert_39 {post : Int32 → SX → Prop} {a b : Nat} {oc : Option Nat} (ha : a < 3) (hb : b < 3) (hp : post 0 (nI (ov_nc e), nI (ov_ac e), so, lo, ov_C (ov_u (ov_cv e) (3 * a + b) oc), ov_A (ov_st e), ov_A (ov_sc e), ov_A (ov_hd e), ov_A (ov_vs e), ov_A (ov_lt e), ov_A (ov_kd e), ov_A (ov_ct e), ov_A (ov_lf e), ov_A (ov_rt e), tk, pt, op, ch, ty, hs, bc, bt)) : wX_convert_39 post (nI a) (nI b) (ov_o oc) (nI (ov_nc e)) (nI (ov_ac e)) so lo (ov_C (ov_cv e)) (ov_A (ov_st e)) (ov_A (ov_sc e)) (ov_A (ov_hd e)) (ov_A (ov_vs e)) (ov_A (ov_lt e)) (ov_A (ov_kd e)) (ov_A (ov_ct e)) (ov_A (ov_lf e)) (ov_A (ov_rt e)) tk pt op ch ty hs bc bt := by
  refine ⟨?_, nm_r ?_ hp⟩
  · rw [ov_ix3]; exact vp_in_nI (by omega) (by omega)
  · rw [ov_ix3, nI_clamp (by omega), ov_C_u]
end
theorem i_vc_convert {k : Nat} {u : SX} {v : SY} (I : i_Rel k u v) (hk : k + 4 ≤ 2048) (v1 : Int32) (v2 : Int32) (v3 : Int32) : wpX_convert (fun r u' => wpY_convert (fun r' v' => r' = r ∧ i_Rel (k + 4) u' v') v v1 v2 v3) u v1 v2 v3 := by
  obtain ⟨e, tk, pt, op, ch, ty, hs, bc, bt, yq, yr, pa, pq, pv, yt, so, lo, to, fi, le, be, bo, sa, rfl, rfl, hw, hq⟩ := I
  have R0 : i_Rel (k + 4) (nI (ov_nc e), nI (ov_ac e), so, lo, ov_C (ov_cv e), ov_A (ov_st e), ov_A (ov_sc e), ov_A (ov_hd e), ov_A (ov_vs e), ov_A (ov_lt e), ov_A (ov_kd e), ov_A (ov_ct e), ov_A (ov_lf e), ov_A (ov_rt e), tk, pt, op, ch, ty, hs, bc, bt) (nI (ov_nc e), to, fi, le, be, bo, sa, ov_C (ov_cv e), ov_A (ov_hd e), ov_A (ov_s9 e), ov_A (ov_s3 e), ov_A (ov_s1 e), ov_A (ov_sc e), ov_A (ov_vs e), ov_A (ov_lt e), ov_A (ov_kd e), ov_A (ov_ct e), yq, yr, tk, pa, pq, pv, yt) := ov_mkR hw hq
  unfold wpX_convert wpY_convert
  dsimp only
  by_cases h1 : ov_in 0 3 v1
  · refine ox_isType_t h1 (br_f ov_10 ?_)
    by_cases h2 : ov_in 0 3 v2
    · refine ox_isType_t h2 (br_f ov_10 ?_)
      by_cases h3 : v1 = v2
      · exact br_t h3 (oy_badType_t h1 (br_t rfl (oy_badType_t h2 (br_t rfl (br_t h3 ⟨rfl, R0⟩)))))
      · refine br_f h3 ?_
        have key : ∀ oc : Option Nat, v3 = ov_o oc → (∀ c, oc = some c → c ≤ 9) → wX_convert_39 (fun r u' => wpY_badType (fun r_1 => (r_1 = 0 → wpY_badType (fun r_27 => (r_27 = 0 → (v1 = v2 → (-2 = r ∧ i_Rel (k + 4) u' (nI (ov_nc e), to, fi, le, be, bo, sa, ov_C (ov_cv e), ov_A (ov_hd e), ov_A (ov_s9 e), ov_A (ov_s3 e), ov_A (ov_s1 e), ov_A (ov_sc e), ov_A (ov_vs e), ov_A (ov_lt e), ov_A (ov_kd e), ov_A (ov_ct e), yq, yr, tk, pa, pq, pv, yt))) ∧ (¬ v1 = v2 → (v3 < -1 → (-3 = r ∧ i_Rel (k + 4) u' (nI (ov_nc e), to, fi, le, be, bo, sa, ov_C (ov_cv e), ov_A (ov_hd e), ov_A (ov_s9 e), ov_A (ov_s3 e), ov_A (ov_s1 e), ov_A (ov_sc e), ov_A (ov_vs e), ov_A (ov_lt e), ov_A (ov_kd e), ov_A (ov_ct e), yq, yr, tk, pa, pq, pv, yt))) ∧ (¬ v3 < -1 → (v3 ≤ 9 → vp_in (3 * v1 + v2) 9 ∧ ∀ a_conversion_57, a_conversion_57 = upd (ov_C (ov_cv e)) (3 * v1 + v2).toNatClampNeg v3 → (0 = r ∧ i_Rel (k + 4) u' (nI (ov_nc e), to, fi, le, be, bo, sa, a_conversion_57, ov_A (ov_hd e), ov_A (ov_s9 e), ov_A (ov_s3 e), ov_A (ov_s1 e), ov_A (ov_sc e), ov_A (ov_vs e), ov_A (ov_lt e), ov_A (ov_kd e), ov_A (ov_ct e), yq, yr, tk, pa, pq, pv, yt))) ∧ (¬ v3 ≤ 9 → (-3 = r ∧ i_Rel (k + 4) u' (nI (ov_nc e), to, fi, le, be, bo, sa, ov_C (ov_cv e), ov_A (ov_hd e), ov_A (ov_s9 e), ov_A (ov_s3 e), ov_A (ov_s1 e), ov_A (ov_sc e), ov_A (ov_vs e), ov_A (ov_lt e), ov_A (ov_kd e), ov_A (ov_ct e), yq, yr, tk, pa, pq, pv, yt)))))) ∧ (¬ r_27 = 0 → (-1 = r ∧ i_Rel (k + 4) u' (nI (ov_nc e), to, fi, le, be, bo, sa, ov_C (ov_cv e), ov_A (ov_hd e), ov_A (ov_s9 e), ov_A (ov_s3 e), ov_A (ov_s1 e), ov_A (ov_sc e), ov_A (ov_vs e), ov_A (ov_lt e), ov_A (ov_kd e), ov_A (ov_ct e), yq, yr, tk, pa, pq, pv, yt)))) (nI (ov_nc e), to, fi, le, be, bo, sa, ov_C (ov_cv e), ov_A (ov_hd e), ov_A (ov_s9 e), ov_A (ov_s3 e), ov_A (ov_s1 e), ov_A (ov_sc e), ov_A (ov_vs e), ov_A (ov_lt e), ov_A (ov_kd e), ov_A (ov_ct e), yq, yr, tk, pa, pq, pv, yt) v2) ∧ (¬ r_1 = 0 → (-1 = r ∧ i_Rel (k + 4) u' (nI (ov_nc e), to, fi, le, be, bo, sa, ov_C (ov_cv e), ov_A (ov_hd e), ov_A (ov_s9 e), ov_A (ov_s3 e), ov_A (ov_s1 e), ov_A (ov_sc e), ov_A (ov_vs e), ov_A (ov_lt e), ov_A (ov_kd e), ov_A (ov_ct e), yq, yr, tk, pa, pq, pv, yt)))) (nI (ov_nc e), to, fi, le, be, bo, sa, ov_C (ov_cv e), ov_A (ov_hd e), ov_A (ov_s9 e), ov_A (ov_s3 e), ov_A (ov_s1 e), ov_A (ov_sc e), ov_A (ov_vs e), ov_A (ov_lt e), ov_A (ov_kd e), ov_A (ov_ct e), yq, yr, tk, pa, pq, pv, yt) v1) v1 v2 v3 (nI (ov_nc e)) (nI (ov_ac e)) so lo (ov_C (ov_cv e)) (ov_A (ov_st e)) (ov_A (ov_sc e)) (ov_A (ov_hd e)) (ov_A (ov_vs e)) (ov_A (ov_lt e)) (ov_A (ov_kd e)) (ov_A (ov_ct e)) (ov_A (ov_lf e)) (ov_A (ov_rt e)) tk pt op ch ty hs bc bt := by
          intro oc hoc hle
          obtain ⟨a, _, ha, rfl⟩ := h1
          obtain ⟨b, _, hb, rfl⟩ := h2
          subst hoc
          refine ox_convert_39 ha hb ?_
          refine oy_badType_t ⟨a, Nat.zero_le _, ha, rfl⟩ (br_t rfl (oy_badType_t ⟨b, Nat.zero_le _, hb, rfl⟩ (br_t rfl (br_f h3 ?_))))
          have hY : vp_in (3 * nI a + nI b) 9 ∧ ∀ a_conversion_57, a_conversion_57 = upd (ov_C (ov_cv e)) (3 * nI a + nI b).toNatClampNeg (ov_o oc) → ((0 : Int32) = 0 ∧ i_Rel (k + 4) (nI (ov_nc e), nI (ov_ac e), so, lo, ov_C (ov_u (ov_cv e) (3 * a + b) oc), ov_A (ov_st e), ov_A (ov_sc e), ov_A (ov_hd e), ov_A (ov_vs e), ov_A (ov_lt e), ov_A (ov_kd e), ov_A (ov_ct e), ov_A (ov_lf e), ov_A (ov_rt e), tk, pt, op, ch, ty, hs, bc, bt) (nI (ov_nc e), to, fi, le, be, bo, sa, a_conversion_57, ov_A (ov_hd e), ov_A (ov_s9 e), ov_A (ov_s3 e), ov_A (ov_s1 e), ov_A (ov_sc e), ov_A (ov_vs e), ov_A (ov_lt e), ov_A (ov_kd e), ov_A (ov_ct e), yq, yr, tk, pa, pq, pv, yt)) := by
            refine ⟨?_, nm_r (e' := ov_C (ov_u (ov_cv e) (3 * a + b) oc)) ?_ ⟨rfl, ?_⟩⟩
            · rw [ov_ix3]; exact vp_in_nI (by omega) (by omega)
            · rw [ov_ix3, nI_clamp (by omega), ov_C_u]
            · refine ov_mkR (e := (ov_nc e, ov_u (ov_cv e) (3 * a + b) oc, e.2.2)) ⟨hw.1, fun i c h => ?_, hw.2.2⟩ hq
              by_cases hi : i = 3 * a + b
              · subst hi
                exact hle c (ov_us.symm.trans h)
              · exact hw.2.1 i c ((ov_un hi).symm.trans h)
          cases oc with
          | none => exact br_f (by decide) (br_t (by decide) hY)
          | some c =>
            have := hle c rfl
            exact br_f (ov_m1l (by omega)) (pk_le c 9 (fun _ => hY) (fun z => absurd z (by omega)))
        by_cases h4 : v3 = -1
        · exact br_t h4 (key none h4 (fun c h => nomatch h))
        · refine br_f h4 ?_
          by_cases h5 : ov_in 0 10 v3
          · obtain ⟨c, hc, hv⟩ := ov_mkO h5
            exact ox_isCost_t h5 (br_f ov_10 (key (some c) hv (fun c' h => by have := Option.some.inj h; omega)))
          · refine ox_isCost_f h5 (br_t rfl (oy_badType_t h1 (br_t rfl (oy_badType_t h2 (br_t rfl (br_f h3 ?_))))))
            rcases Classical.em (v3 < 0) with hx | hx
            · exact br_t (ov_m1x hx h4) ⟨rfl, R0⟩
            · obtain ⟨j, hj, rfl⟩ := nI_of hx
              exact br_f (ov_m1l hj) (pk_le j 9 (fun z => absurd ⟨j, Nat.zero_le _, by omega, rfl⟩ h5) (fun _ => ⟨rfl, R0⟩))
    · exact ox_isType_f h2 (br_t rfl (oy_badType_t h1 (br_t rfl (oy_badType_f h2 (br_f ov_10 ⟨rfl, R0⟩)))))
  · exact ox_isType_f h1 (br_t rfl (oy_badType_f h1 (br_f ov_10 ⟨rfl, R0⟩)))
theorem ov_div9 {p : Nat} (h : p < 2 ^ 31) : nI p / 9 = nI (p / 9) := pk_div (d := 9) h (by omega) (by omega)
theorem ov_rem3 {p : Nat} (h : p < 2 ^ 31) : nI p - nI p / 3 * 3 = nI (p % 3) := pk_rem (d := 3) h (by omega) (by omega)
theorem ov_div3 {p : Nat} (h : p < 2 ^ 31) : nI p / 3 = nI (p / 3) := pk_div (d := 3) h (by omega) (by omega)
theorem ov_rem4 {p : Nat} (h : p < 2 ^ 31) : nI p - nI p / 4 * 4 = nI (p % 4) := pk_rem (d := 4) h (by omega) (by omega)
theorem ov_div4 {p : Nat} (h : p < 2 ^ 31) : nI p / 4 = nI (p / 4) := pk_div (d := 4) h (by omega) (by omega)
theorem ov_rem33 {p : Nat} (h : p < 2 ^ 31) : (nI p / 3) - (nI p / 3) / 3 * 3 = nI (p / 3 % 3) := by
  rw [ov_div3 h]
  exact pk_rem (d := 3) (by omega) (by omega) (by omega)
theorem ov_u_map {f : Nat → Nat} {k x : Nat} (g : Nat → Nat) : ov_u (fun i => g (f i)) k (g x) = fun i => g (ov_u f k x i) := by
  funext i
  by_cases h : i = k
  · subst h; rw [ov_us, ov_us]
  · rw [ov_un h, ov_un h]
theorem ov_u_all {p : Nat → Prop} {f : Nat → Nat} {k x : Nat} (h : ∀ i, p (f i)) (hx : p x) (i : Nat) : p (ov_u f k x i) := by
  by_cases hi : i = k
  · subst hi; rw [ov_us]; exact hx
  · rw [ov_un hi]; exact h i
theorem ov_93 : ¬ (9 : Int32) = 0 := by decide
theorem ov_33 : ¬ (3 : Int32) = 0 := by decide
theorem ov_43 : ¬ (4 : Int32) = 0 := by decide
theorem i_vc_overload {k : Nat} {u : SX} {v : SY} (I : i_Rel k u v) (hk : k + 4 ≤ 2048) (v1 : Int32) (v2 : Int32) (v3 : Int32) : wpX_overload (fun r u' => wpY_overload (fun r' v' => r' = r ∧ i_Rel (k + 4) u' v') v v1 v2 v3) u v1 v2 v3 := by
  obtain ⟨e, tk, pt, op, ch, ty, hs, bc, bt, yq, yr, pa, pq, pv, yt, so, lo, to, fi, le, be, bo, sa, rfl, rfl, hw, hq⟩ := I
  have R0 : i_Rel (k + 4) (nI (ov_nc e), nI (ov_ac e), so, lo, ov_C (ov_cv e), ov_A (ov_st e), ov_A (ov_sc e), ov_A (ov_hd e), ov_A (ov_vs e), ov_A (ov_lt e), ov_A (ov_kd e), ov_A (ov_ct e), ov_A (ov_lf e), ov_A (ov_rt e), tk, pt, op, ch, ty, hs, bc, bt) (nI (ov_nc e), to, fi, le, be, bo, sa, ov_C (ov_cv e), ov_A (ov_hd e), ov_A (ov_s9 e), ov_A (ov_s3 e), ov_A (ov_s1 e), ov_A (ov_sc e), ov_A (ov_vs e), ov_A (ov_lt e), ov_A (ov_kd e), ov_A (ov_ct e), yq, yr, tk, pa, pq, pv, yt) := ov_mkR hw hq
  unfold wpX_overload wpY_overload
  dsimp only
  by_cases h1 : ov_in 0 3 v1
  · refine ox_isOperator_t h1 (br_f ov_10 ?_)
    by_cases h2 : ov_in 0 27 v2
    · refine ov_zt 0 27 h2 ?_
      by_cases h3 : ov_in 0 10 v3
      · refine ox_isCost_t h3 (br_f ov_10 ?_)
        have h1' := h1
        have h2' := h2
        have h3' := h3
        obtain ⟨a, _, ha, rfl⟩ := h1
        obtain ⟨p, _, hp, rfl⟩ := h2
        obtain ⟨c, _, hc, rfl⟩ := h3
        have hh := hw.2.2.2.2.1 a
        have hi : vp_in (nI a) 3 := vp_in_nI ha (by omega)
        refine ⟨hi, pk_lt (ov_hd e a) 4 (fun h4 => ?_) (fun h4 => ?_) (ov_AV (by omega)) rfl (by omega) (by omega)⟩
        · have hj : vp_in (nI (4 * a + ov_hd e a)) 12 := vp_in_nI (by omega) (by omega)
          refine ⟨hi, nm_r (e' := nI (4 * a + ov_hd e a)) (by rw [ov_AV (by omega), ov_ix4]) ?_⟩
          refine ⟨hj, nm_r (ov_AU (by omega)) ⟨hj, nm_r (ov_AU (by omega)) ⟨hi, hi, nm_r (e' := ov_A (ov_u (ov_hd e) a (ov_hd e a + 1))) (by rw [ov_AV (by omega), nI_1, ov_AU (by omega)]) ⟨hi, ?_⟩⟩⟩⟩
          refine oy_badOp_t h1' (br_t rfl (ov_yt 0 26 h2' (oy_badCost_t h3' (br_t rfl ⟨hi, pk_lt (ov_hd e a) 4 (fun _ => ?_) (fun z => absurd z (by omega)) (ov_AV (by omega)) rfl (by omega) (by omega)⟩))))
          refine ⟨hi, nm_r (e' := nI (4 * a + ov_hd e a)) (by rw [ov_AV (by omega), ov_ix4]) ?_⟩
          refine ⟨ov_93, hj, nm_r (e' := ov_A (ov_u (ov_s9 e) (4 * a + ov_hd e a) (p / 9))) (by rw [ov_div9 (by omega), ov_AU (by omega)]) ?_⟩
          refine ⟨ov_33, ov_33, hj, nm_r (e' := ov_A (ov_u (ov_s3 e) (4 * a + ov_hd e a) (p / 3 % 3))) (by rw [ov_rem33 (by omega), ov_AU (by omega)]) ?_⟩
          refine ⟨ov_33, hj, nm_r (e' := ov_A (ov_u (ov_s1 e) (4 * a + ov_hd e a) (p % 3))) (by rw [ov_rem3 (by omega), ov_AU (by omega)]) ?_⟩
          refine ⟨hj, nm_r (ov_AU (by omega)) ⟨hi, hi, nm_r (e' := ov_A (ov_u (ov_hd e) a (ov_hd e a + 1))) (by rw [ov_AV (by omega), nI_1, ov_AU (by omega)]) ⟨hi, rfl, ?_⟩⟩⟩
          have e9 : ov_u (ov_s9 e) (4 * a + ov_hd e a) (p / 9) = fun i => ov_u (ov_st e) (4 * a + ov_hd e a) p i / 9 := ov_u_map (fun x => x / 9)
          have e3 : ov_u (ov_s3 e) (4 * a + ov_hd e a) (p / 3 % 3) = fun i => ov_u (ov_st e) (4 * a + ov_hd e a) p i / 3 % 3 := ov_u_map (fun x => x / 3 % 3)
          have e1 : ov_u (ov_s1 e) (4 * a + ov_hd e a) (p % 3) = fun i => ov_u (ov_st e) (4 * a + ov_hd e a) p i % 3 := ov_u_map (fun x => x % 3)
          rw [e9, e3, e1]
          refine ov_mkR (e := (ov_nc e, ov_cv e, ov_u (ov_st e) (4 * a + ov_hd e a) p, ov_u (ov_sc e) (4 * a + ov_hd e a) c, ov_u (ov_hd e) a (ov_hd e a + 1), e.2.2.2.2.2)) ⟨hw.1, hw.2.1, ?_, ?_, ?_, hw.2.2.2.2.2⟩ hq
          · exact ov_u_all (p := fun x => x < 27) hw.2.2.1 hp
          · exact ov_u_all (p := fun x => x ≤ 9) hw.2.2.2.1 (by omega)
          · exact ov_u_all (p := fun x => x ≤ 4) hw.2.2.2.2.1 (by omega)
        · exact oy_badOp_t h1' (br_t rfl (ov_yt 0 26 h2' (oy_badCost_t h3' (br_t rfl ⟨hi, pk_lt (ov_hd e a) 4 (fun z => absurd z (by omega)) (fun _ => ⟨rfl, R0⟩) (ov_AV (by omega)) rfl (by omega) (by omega)⟩))))
      · exact ox_isCost_f h3 (br_t rfl (oy_badOp_t h1 (br_t rfl (ov_yt 0 26 h2 (oy_badCost_f h3 (br_f ov_10 ⟨rfl, R0⟩))))))
    · refine ov_zf 0 27 h2 ?_ ?_
      · exact oy_badOp_t h1 (br_t rfl (ov_yf 0 26 h2 ⟨rfl, R0⟩ ⟨rfl, R0⟩))
      · exact oy_badOp_t h1 (br_t rfl (ov_yf 0 26 h2 ⟨rfl, R0⟩ ⟨rfl, R0⟩))
  · exact ox_isOperator_f h1 (br_t rfl (oy_badOp_f h1 (br_f ov_10 ⟨rfl, R0⟩)))

theorem i_vc_forget {k : Nat} {u : SX} {v : SY} (I : i_Rel k u v) (hk : k + 4 ≤ 2048) (v1 : Int32) : wpX_forget (fun r u' => wpY_forget (fun r' v' => r' = r ∧ i_Rel (k + 4) u' v') v v1) u v1 := by
  obtain ⟨e, tk, pt, op, ch, ty, hs, bc, bt, yq, yr, pa, pq, pv, yt, so, lo, to, fi, le, be, bo, sa, rfl, rfl, hw, hq⟩ := I
  have R0 : i_Rel (k + 4) (nI (ov_nc e), nI (ov_ac e), so, lo, ov_C (ov_cv e), ov_A (ov_st e), ov_A (ov_sc e), ov_A (ov_hd e), ov_A (ov_vs e), ov_A (ov_lt e), ov_A (ov_kd e), ov_A (ov_ct e), ov_A (ov_lf e), ov_A (ov_rt e), tk, pt, op, ch, ty, hs, bc, bt) (nI (ov_nc e), to, fi, le, be, bo, sa, ov_C (ov_cv e), ov_A (ov_hd e), ov_A (ov_s9 e), ov_A (ov_s3 e), ov_A (ov_s1 e), ov_A (ov_sc e), ov_A (ov_vs e), ov_A (ov_lt e), ov_A (ov_kd e), ov_A (ov_ct e), yq, yr, tk, pa, pq, pv, yt) := ov_mkR hw hq
  unfold wpX_forget wpY_forget
  dsimp only
  by_cases h1 : ov_in 0 3 v1
  · refine ox_isOperator_t h1 (br_f ov_10 ?_)
    have h1' := h1
    obtain ⟨a, _, ha, rfl⟩ := h1
    have hi : vp_in (nI a) 3 := vp_in_nI ha (by omega)
    refine ⟨hi, nm_e ⟨hi, nm_r (e' := ov_A (ov_u (ov_hd e) a 0)) (ov_AU (v := 0) (by omega)) ?_⟩⟩
    refine oy_badOp_t h1' (br_t rfl ⟨hi, nm_e ⟨hi, nm_r (e' := ov_A (ov_u (ov_hd e) a 0)) (ov_AU (v := 0) (by omega)) ⟨rfl, ?_⟩⟩⟩)
    refine ov_mkR (e := (ov_nc e, ov_cv e, ov_st e, ov_sc e, ov_u (ov_hd e) a 0, e.2.2.2.2.2)) ⟨hw.1, hw.2.1, hw.2.2.1, hw.2.2.2.1, ?_, hw.2.2.2.2.2⟩ hq
    exact ov_u_all (p := fun x => x ≤ 4) hw.2.2.2.2.1 (by omega)
  · exact ox_isOperator_f h1 (br_t rfl (oy_badOp_f h1 (br_f ov_10 ⟨rfl, R0⟩)))
theorem i_vc_declare {k : Nat} {u : SX} {v : SY} (I : i_Rel k u v) (hk : k + 4 ≤ 2048) (v1 : Int32) (v2 : Int32) : wpX_declare (fun r u' => wpY_declare (fun r' v' => r' = r ∧ i_Rel (k + 4) u' v') v v1 v2) u v1 v2 := by
  obtain ⟨e, tk, pt, op, ch, ty, hs, bc, bt, yq, yr, pa, pq, pv, yt, so, lo, to, fi, le, be, bo, sa, rfl, rfl, hw, hq⟩ := I
  have R0 : i_Rel (k + 4) (nI (ov_nc e), nI (ov_ac e), so, lo, ov_C (ov_cv e), ov_A (ov_st e), ov_A (ov_sc e), ov_A (ov_hd e), ov_A (ov_vs e), ov_A (ov_lt e), ov_A (ov_kd e), ov_A (ov_ct e), ov_A (ov_lf e), ov_A (ov_rt e), tk, pt, op, ch, ty, hs, bc, bt) (nI (ov_nc e), to, fi, le, be, bo, sa, ov_C (ov_cv e), ov_A (ov_hd e), ov_A (ov_s9 e), ov_A (ov_s3 e), ov_A (ov_s1 e), ov_A (ov_sc e), ov_A (ov_vs e), ov_A (ov_lt e), ov_A (ov_kd e), ov_A (ov_ct e), yq, yr, tk, pa, pq, pv, yt) := ov_mkR hw hq
  unfold wpX_declare wpY_declare
  dsimp only
  by_cases h1 : ov_in 0 2 v1
  · refine ox_isVariable_t h1 (br_f ov_10 ?_)
    by_cases h2 : ov_in 1 8 v2
    · refine ox_isSet_t h2 (br_f ov_10 ?_)
      have h1' := h1
      have h2' := h2
      obtain ⟨a, _, ha, rfl⟩ := h1
      obtain ⟨s, hs1, hs8, rfl⟩ := h2
      have hi : vp_in (nI a) 2 := vp_in_nI ha (by omega)
      refine ⟨hi, nm_e ⟨hi, nm_r (e' := ov_A (ov_u (ov_vs e) a s)) (ov_AU (by omega)) ?_⟩⟩
      refine ov_yt 0 1 h1' (ov_yt 1 7 h2' ⟨hi, nm_e ⟨hi, nm_r (e' := ov_A (ov_u (ov_vs e) a s)) (ov_AU (by omega)) ⟨rfl, ?_⟩⟩⟩)
      refine ov_mkR (e := (ov_nc e, ov_cv e, ov_st e, ov_sc e, ov_hd e, ov_u (ov_vs e) a s, e.2.2.2.2.2.2)) ⟨hw.1, hw.2.1, hw.2.2.1, hw.2.2.2.1, hw.2.2.2.2.1, ?_, hw.2.2.2.2.2.2⟩ hq
      exact ov_u_all (p := fun x => x < 8) hw.2.2.2.2.2.1 (by omega)
    · exact ox_isSet_f h2 (br_t rfl (ov_yt 0 1 h1 (ov_yf 1 7 h2 ⟨rfl, R0⟩ ⟨rfl, R0⟩)))
  · exact ox_isVariable_f h1 (br_t rfl (ov_yf 0 1 h1 ⟨rfl, R0⟩ ⟨rfl, R0⟩))
theorem i_vc_literalCost {k : Nat} {u : SX} {v : SY} (I : i_Rel k u v) (hk : k + 4 ≤ 2048) (v1 : Int32) (v2 : Int32) : wpX_literalCost (fun r u' => wpY_literalCost (fun r' v' => r' = r ∧ i_Rel (k + 4) u' v') v v1 v2) u v1 v2 := by
  obtain ⟨e, tk, pt, op, ch, ty, hs, bc, bt, yq, yr, pa, pq, pv, yt, so, lo, to, fi, le, be, bo, sa, rfl, rfl, hw, hq⟩ := I
  have R0 : i_Rel (k + 4) (nI (ov_nc e), nI (ov_ac e), so, lo, ov_C (ov_cv e), ov_A (ov_st e), ov_A (ov_sc e), ov_A (ov_hd e), ov_A (ov_vs e), ov_A (ov_lt e), ov_A (ov_kd e), ov_A (ov_ct e), ov_A (ov_lf e), ov_A (ov_rt e), tk, pt, op, ch, ty, hs, bc, bt) (nI (ov_nc e), to, fi, le, be, bo, sa, ov_C (ov_cv e), ov_A (ov_hd e), ov_A (ov_s9 e), ov_A (ov_s3 e), ov_A (ov_s1 e), ov_A (ov_sc e), ov_A (ov_vs e), ov_A (ov_lt e), ov_A (ov_kd e), ov_A (ov_ct e), yq, yr, tk, pa, pq, pv, yt) := ov_mkR hw hq
  unfold wpX_literalCost wpY_literalCost
  dsimp only
  by_cases h1 : ov_in 0 3 v1
  · refine ox_isType_t h1 (br_f ov_10 ?_)
    by_cases h2 : ov_in 0 10 v2
    · refine ox_isCost_t h2 (br_f ov_10 ?_)
      have h1' := h1
      have h2' := h2
      obtain ⟨a, _, ha, rfl⟩ := h1
      obtain ⟨s, _, hs9, rfl⟩ := h2
      have hi : vp_in (nI a) 3 := vp_in_nI ha (by omega)
      refine ⟨hi, nm_r (e' := ov_A (ov_u (ov_lt e) a s)) (ov_AU (by omega)) ?_⟩
      refine oy_badType_t h1' (br_t rfl (oy_badCost_t h2' (br_t rfl ⟨hi, nm_r (e' := ov_A (ov_u (ov_lt e) a s)) (ov_AU (by omega)) ⟨rfl, ?_⟩⟩)))
      refine ov_mkR (e := (ov_nc e, ov_cv e, ov_st e, ov_sc e, ov_hd e, ov_vs e, ov_u (ov_lt e) a s, e.2.2.2.2.2.2.2)) ⟨hw.1, hw.2.1, hw.2.2.1, hw.2.2.2.1, hw.2.2.2.2.1, hw.2.2.2.2.2.1, ?_, hw.2.2.2.2.2.2.2⟩ hq
      exact ov_u_all (p := fun x => x ≤ 9) hw.2.2.2.2.2.2.1 (by omega)
    · exact ox_isCost_f h2 (br_t rfl (oy_badType_t h1 (br_t rfl (oy_badCost_f h2 (br_f ov_10 ⟨rfl, R0⟩)))))
  · exact ox_isType_f h1 (br_t rfl (oy_badType_f h1 (br_f ov_10 ⟨rfl, R0⟩)))
theorem i_vc_clear {k : Nat} {u : SX} {v : SY} (I : i_Rel k u v) (hk : k + 4 ≤ 2048) : wpX_clear (fun r u' => wpY_clear (fun r' v' => r' = r ∧ i_Rel (k + 4) u' v') v) u := by
  obtain ⟨e, tk, pt, op, ch, ty, hs, bc, bt, yq, yr, pa, pq, pv, yt, so, lo, to, fi, le, be, bo, sa, rfl, rfl, hw, hq⟩ := I
  refine ⟨rfl, ov_mkR (e := (0, e.2)) ⟨Nat.zero_le _, hw.2.1, hw.2.2.1, hw.2.2.2.1, hw.2.2.2.2.1, hw.2.2.2.2.2.1, hw.2.2.2.2.2.2.1, hw.2.2.2.2.2.2.2.1, fun n h => absurd h (Nat.not_lt_zero n), Nat.zero_le _⟩ (fun n h => absurd h (Nat.not_lt_zero n))⟩
theorem i_vc_nodes {k : Nat} {u : SX} {v : SY} (I : i_Rel k u v) (hk : k + 4 ≤ 2048) : wpX_nodes (fun r => wpY_nodes (fun r' => r' = r ∧ i_Rel (k + 4) u v) v) u := by
  have I' := I
  obtain ⟨e, tk, pt, op, ch, ty, hs, bc, bt, yq, yr, pa, pq, pv, yt, so, lo, to, fi, le, be, bo, sa, rfl, rfl, hw, hq⟩ := I
  exact ⟨rfl, I'⟩
