/-! new nodes, apply, the constructors -/
def ov_ad (e : ov_E) (kk cc : Nat) (lf rt : Nat → Nat) : ov_E := (ov_nc e + 1, ov_cv e, ov_st e, ov_sc e, ov_hd e, ov_vs e, ov_lt e, ov_u (ov_kd e) (ov_nc e) kk, ov_u (ov_ct e) (ov_nc e) cc, lf, rt)
theorem ov_cn_eq {p q : Nat → Bool} {k : Nat} (h : ∀ j, j < k → p j = q j) : ov_cn p k = ov_cn q k :=
  Nat.le_antisymm (ov_cn_le k (fun j hj hp => (h j hj) ▸ hp)) (ov_cn_le k (fun j hj hp => (h j hj).symm ▸ hp))
theorem ov_ad_ac (e : ov_E) (kk cc : Nat) (lf rt : Nat → Nat) : ov_ac (ov_ad e kk cc lf rt) = ov_ac e + (if kk = 3 then 1 else 0) := by
  show ov_cn (ov_ap (ov_ad e kk cc lf rt)) (ov_nc e) + (if ov_ap (ov_ad e kk cc lf rt) (ov_nc e) = true then 1 else 0) = _
  have h1 : ov_cn (ov_ap (ov_ad e kk cc lf rt)) (ov_nc e) = ov_ac e := ov_cn_eq (fun j hj => by
    show decide (ov_u (ov_kd e) (ov_nc e) kk j = 3) = decide (ov_kd e j = 3)
    rw [ov_un (by omega)])
  have h2 : ov_ap (ov_ad e kk cc lf rt) (ov_nc e) = decide (kk = 3) := by
    show decide (ov_u (ov_kd e) (ov_nc e) kk (ov_nc e) = 3) = _
    rw [ov_us]
  rw [h1, h2]
  by_cases hk : kk = 3
  · rw [if_pos hk, if_pos (decide_eq_true hk)]
  · rw [if_neg hk, decide_eq_false hk, if_neg Bool.false_ne_true]
theorem ov_ad_W {e : ov_E} {kk cc : Nat} {lf rt : Nat → Nat} (hw : ov_W e) (h12 : ov_nc e < 12) (hk : kk ≤ 3) (hc : cc < 8) (h1 : kk = 1 → cc < 2) (h2 : kk = 2 → cc < 3) (h3 : kk = 3 → cc < 3 ∧ lf (ov_nc e) < ov_nc e ∧ rt (ov_nc e) < ov_nc e) (hl : ∀ j, j < ov_nc e → lf j = ov_lf e j ∧ rt j = ov_rt e j) (ha : ov_ac e + (if kk = 3 then 1 else 0) ≤ 3) : ov_W (ov_ad e kk cc lf rt) := by
  refine ⟨h12, hw.2.1, hw.2.2.1, hw.2.2.2.1, hw.2.2.2.2.1, hw.2.2.2.2.2.1, hw.2.2.2.2.2.2.1, ov_u_all (p := fun x => x < 8) hw.2.2.2.2.2.2.2.1 hc, fun n hn => ?_, by rw [ov_ad_ac]; exact ha⟩
  have hn' : n < ov_nc e + 1 := hn
  show ov_u (ov_kd e) (ov_nc e) kk n ≤ 3 ∧ (ov_u (ov_kd e) (ov_nc e) kk n = 1 → ov_u (ov_ct e) (ov_nc e) cc n < 2) ∧ (ov_u (ov_kd e) (ov_nc e) kk n = 2 → ov_u (ov_ct e) (ov_nc e) cc n < 3) ∧ (ov_u (ov_kd e) (ov_nc e) kk n = 3 → ov_u (ov_ct e) (ov_nc e) cc n < 3 ∧ lf n < n ∧ rt n < n)
  by_cases h : n = ov_nc e
  · subst h
    rw [ov_us, ov_us]
    exact ⟨hk, h1, h2, h3⟩
  · rw [ov_un h, ov_un h, (hl n (by omega)).1, (hl n (by omega)).2]
    exact hw.2.2.2.2.2.2.2.2.1 n (by omega)
theorem ov_nb0 : vp_nar .boolean 0 = 0 := by rfl
theorem ov_nb1 : vp_nar .boolean 1 = 1 := by rfl
section
variable {e : ov_E} {tk pt op ch ty hs bc bt yq yr pa pq pv yt : Nat → Int32} {so lo to fi le be bo sa : Int32}
theorem ov_ad_R {k kk cc : Nat} {lf rt : Nat → Nat} {x y : Int32} (hw : ov_W e) (hq : ∀ n, n < ov_nc e → ov_kd e n = 3 → yq n = nI (ov_lf e n) ∧ yr n = nI (ov_rt e n)) (h12 : ov_nc e < 12) (hk : kk ≤ 3) (hc : cc < 8) (h1 : kk = 1 → cc < 2) (h2 : kk = 2 → cc < 3) (h3 : kk = 3 → cc < 3 ∧ lf (ov_nc e) < ov_nc e ∧ rt (ov_nc e) < ov_nc e) (hl : ∀ j, j < ov_nc e → lf j = ov_lf e j ∧ rt j = ov_rt e j) (ha : ov_ac e + (if kk = 3 then 1 else 0) ≤ 3) (hx : kk = 3 → x = nI (lf (ov_nc e)) ∧ y = nI (rt (ov_nc e))) :
    i_Rel k (nI (ov_nc e + 1), nI (ov_ac e + (if kk = 3 then 1 else 0)), so, lo, ov_C (ov_cv e), ov_A (ov_st e), ov_A (ov_sc e), ov_A (ov_hd e), ov_A (ov_vs e), ov_A (ov_lt e), ov_A (ov_u (ov_kd e) (ov_nc e) kk), ov_A (ov_u (ov_ct e) (ov_nc e) cc), ov_A lf, ov_A rt, tk, pt, op, ch, ty, hs, bc, bt) (nI (ov_nc e + 1), to, fi, le, be, bo, sa, ov_C (ov_cv e), ov_A (ov_hd e), ov_A (ov_s9 e), ov_A (ov_s3 e), ov_A (ov_s1 e), ov_A (ov_sc e), ov_A (ov_vs e), ov_A (ov_lt e), ov_A (ov_u (ov_kd e) (ov_nc e) kk), ov_A (ov_u (ov_ct e) (ov_nc e) cc), upd yq (ov_nc e) x, upd yr (ov_nc e) y, tk, pa, pq, pv, yt) := by
  rw [← ov_ad_ac e kk cc lf rt]
  refine ov_mkR (e := ov_ad e kk cc lf rt) (ov_ad_W hw h12 hk hc h1 h2 h3 hl ha) (fun n hn hkn => ?_)
  have hn' : n < ov_nc e + 1 := hn
  have hkn' : ov_u (ov_kd e) (ov_nc e) kk n = 3 := hkn
  show upd yq (ov_nc e) x n = nI (lf n) ∧ upd yr (ov_nc e) y n = nI (rt n)
  by_cases h : n = ov_nc e
  · subst h
    rw [ov_us] at hkn'
    rw [pk_us, pk_us]
    exact hx hkn'
  · rw [ov_un h] at hkn'
    rw [pk_un h, pk_un h, (hl n (by omega)).1, (hl n (by omega)).2]
    exact hq n (by omega) hkn'
theorem ox_addNode {post : Int32 → SX → Prop} {kk cc : Nat} (h : ov_nc e < 12) (hp : post (nI (ov_nc e)) (nI (ov_nc e + 1), nI (ov_ac e), so, lo, ov_C (ov_cv e), ov_A (ov_st e), ov_A (ov_sc e), ov_A (ov_hd e), ov_A (ov_vs e), ov_A (ov_lt e), ov_A (ov_u (ov_kd e) (ov_nc e) kk), ov_A (ov_u (ov_ct e) (ov_nc e) cc), ov_A (ov_lf e), ov_A (ov_rt e), upd tk (ov_nc e) 0, pt, op, ch, ty, hs, bc, bt)) : wpX_addNode post (nI (ov_nc e), nI (ov_ac e), so, lo, ov_C (ov_cv e), ov_A (ov_st e), ov_A (ov_sc e), ov_A (ov_hd e), ov_A (ov_vs e), ov_A (ov_lt e), ov_A (ov_kd e), ov_A (ov_ct e), ov_A (ov_lf e), ov_A (ov_rt e), tk, pt, op, ch, ty, hs, bc, bt) (nI kk) (nI cc) := by
  have hi : vp_in (nI (ov_nc e)) 12 := vp_in_nI h (by omega)
  exact ⟨hi, nm_r (ov_AU (by omega)) ⟨hi, nm_r (ov_AU (by omega)) ⟨hi, nm_r (e' := upd tk (ov_nc e) 0) (by rw [ov_nb0, nI_clamp (by omega)]) (nm_r (nI_1 _) hp)⟩⟩⟩
theorem oy_node {post : Int32 → SY → Prop} {kk cc : Nat} {x y : Int32} (h : ov_nc e < 12) (hp : post (nI (ov_nc e)) (nI (ov_nc e + 1), to, fi, le, be, bo, sa, ov_C (ov_cv e), ov_A (ov_hd e), ov_A (ov_s9 e), ov_A (ov_s3 e), ov_A (ov_s1 e), ov_A (ov_sc e), ov_A (ov_vs e), ov_A (ov_lt e), ov_A (ov_u (ov_kd e) (ov_nc e) kk), ov_A (ov_u (ov_ct e) (ov_nc e) cc), upd yq (ov_nc e) x, upd yr (ov_nc e) y, upd tk (ov_nc e) 0, pa, pq, pv, yt)) : wpY_node post (nI (ov_nc e), to, fi, le, be, bo, sa, ov_C (ov_cv e), ov_A (ov_hd e), ov_A (ov_s9 e), ov_A (ov_s3 e), ov_A (ov_s1 e), ov_A (ov_sc e), ov_A (ov_vs e), ov_A (ov_lt e), ov_A (ov_kd e), ov_A (ov_ct e), yq, yr, tk, pa, pq, pv, yt) (nI kk) (nI cc) x y := by
  have hi : vp_in (nI (ov_nc e)) 12 := vp_in_nI h (by omega)
  have hl := nI_lt (b := 12) h (by omega)
  exact br_t hl ⟨hi, nm_r (ov_AU (by omega)) ⟨hi, nm_r (ov_AU (by omega)) ⟨hi, nm_r (e' := upd yq (ov_nc e) x) (by rw [nI_clamp (by omega)]) ⟨hi, nm_r (e' := upd yr (ov_nc e) y) (by rw [nI_clamp (by omega)]) ⟨hi, nm_r (e' := upd tk (ov_nc e) 0) (by rw [ov_nb0, nI_clamp (by omega)]) (nm_r (nI_1 _) hp)⟩⟩⟩⟩⟩
theorem oy_node_f {post : Int32 → SY → Prop} {x y z w : Int32} (hw : ov_W e) (h : ¬ ov_nc e < 12) (hp : post (-2) (nI (ov_nc e), to, fi, le, be, bo, sa, ov_C (ov_cv e), ov_A (ov_hd e), ov_A (ov_s9 e), ov_A (ov_s3 e), ov_A (ov_s1 e), ov_A (ov_sc e), ov_A (ov_vs e), ov_A (ov_lt e), ov_A (ov_kd e), ov_A (ov_ct e), yq, yr, tk, pa, pq, pv, yt)) : wpY_node post (nI (ov_nc e), to, fi, le, be, bo, sa, ov_C (ov_cv e), ov_A (ov_hd e), ov_A (ov_s9 e), ov_A (ov_s3 e), ov_A (ov_s1 e), ov_A (ov_sc e), ov_A (ov_vs e), ov_A (ov_lt e), ov_A (ov_kd e), ov_A (ov_ct e), yq, yr, tk, pa, pq, pv, yt) x y z w := by
  have := hw.1
  exact br_f (nI_nlt (b := 12) (by omega) (by omega)) hp
end
theorem i_vc_literal {k : Nat} {u : SX} {v : SY} (I : i_Rel k u v) (hk : k + 4 ≤ 2048) (v1 : Int32) : wpX_literal (fun r u' => wpY_literal (fun r' v' => r' = r ∧ i_Rel (k + 4) u' v') v v1) u v1 := by
  obtain ⟨e, tk, pt, op, ch, ty, hs, bc, bt, yq, yr, pa, pq, pv, yt, so, lo, to, fi, le, be, bo, sa, rfl, rfl, hw, hq⟩ := I
  have R0 : i_Rel (k + 4) (nI (ov_nc e), nI (ov_ac e), so, lo, ov_C (ov_cv e), ov_A (ov_st e), ov_A (ov_sc e), ov_A (ov_hd e), ov_A (ov_vs e), ov_A (ov_lt e), ov_A (ov_kd e), ov_A (ov_ct e), ov_A (ov_lf e), ov_A (ov_rt e), tk, pt, op, ch, ty, hs, bc, bt) (nI (ov_nc e), to, fi, le, be, bo, sa, ov_C (ov_cv e), ov_A (ov_hd e), ov_A (ov_s9 e), ov_A (ov_s3 e), ov_A (ov_s1 e), ov_A (ov_sc e), ov_A (ov_vs e), ov_A (ov_lt e), ov_A (ov_kd e), ov_A (ov_ct e), yq, yr, tk, pa, pq, pv, yt) := ov_mkR hw hq
  have h12 := hw.1
  unfold wpX_literal wpY_literal
  dsimp only
  by_cases h1 : ov_in 1 8 v1
  · refine ox_isSet_t h1 (br_f ov_10 (pk_lt (ov_nc e) 12 (fun hn => ?_) (fun hn => ?_)))
    · obtain ⟨s, hs1, hs8, rfl⟩ := h1
      refine ox_addNode (kk := 0) hn ?_
      refine ov_yt 1 7 ⟨s, hs1, hs8, rfl⟩ (oy_node (kk := 0) hn ⟨rfl, ?_⟩)
      exact ov_ad_R (kk := 0) hw hq hn (by omega) (by omega) (fun h => nomatch h) (fun h => nomatch h) (fun h => nomatch h) (fun _ _ => ⟨rfl, rfl⟩) hw.2.2.2.2.2.2.2.2.2 (fun h => nomatch h)
    · exact ov_yt 1 7 h1 (oy_node_f hw (by omega) ⟨rfl, R0⟩)
  · exact ox_isSet_f h1 (br_t rfl (ov_yf 1 7 h1 ⟨rfl, R0⟩ ⟨rfl, R0⟩))
theorem i_vc_use {k : Nat} {u : SX} {v : SY} (I : i_Rel k u v) (hk : k + 4 ≤ 2048) (v1 : Int32) : wpX_use (fun r u' => wpY_use (fun r' v' => r' = r ∧ i_Rel (k + 4) u' v') v v1) u v1 := by
  obtain ⟨e, tk, pt, op, ch, ty, hs, bc, bt, yq, yr, pa, pq, pv, yt, so, lo, to, fi, le, be, bo, sa, rfl, rfl, hw, hq⟩ := I
  have R0 : i_Rel (k + 4) (nI (ov_nc e), nI (ov_ac e), so, lo, ov_C (ov_cv e), ov_A (ov_st e), ov_A (ov_sc e), ov_A (ov_hd e), ov_A (ov_vs e), ov_A (ov_lt e), ov_A (ov_kd e), ov_A (ov_ct e), ov_A (ov_lf e), ov_A (ov_rt e), tk, pt, op, ch, ty, hs, bc, bt) (nI (ov_nc e), to, fi, le, be, bo, sa, ov_C (ov_cv e), ov_A (ov_hd e), ov_A (ov_s9 e), ov_A (ov_s3 e), ov_A (ov_s1 e), ov_A (ov_sc e), ov_A (ov_vs e), ov_A (ov_lt e), ov_A (ov_kd e), ov_A (ov_ct e), yq, yr, tk, pa, pq, pv, yt) := ov_mkR hw hq
  have h12 := hw.1
  unfold wpX_use wpY_use
  dsimp only
  by_cases h1 : ov_in 0 2 v1
  · refine ox_isVariable_t h1 (br_f ov_10 (pk_lt (ov_nc e) 12 (fun hn => ?_) (fun hn => ?_)))
    · obtain ⟨s, hs1, hs8, rfl⟩ := h1
      refine ox_addNode (kk := 1) hn ?_
      refine ov_yt 0 1 ⟨s, hs1, hs8, rfl⟩ (oy_node (kk := 1) hn ⟨rfl, ?_⟩)
      exact ov_ad_R (kk := 1) hw hq hn (by omega) (by omega) (fun h => by omega) (fun h => nomatch h) (fun h => nomatch h) (fun _ _ => ⟨rfl, rfl⟩) hw.2.2.2.2.2.2.2.2.2 (fun h => nomatch h)
    · exact ov_yt 0 1 h1 (oy_node_f hw (by omega) ⟨rfl, R0⟩)
  · exact ox_isVariable_f h1 (br_t rfl (ov_yf 0 1 h1 ⟨rfl, R0⟩ ⟨rfl, R0⟩))
theorem i_vc_constant {k : Nat} {u : SX} {v : SY} (I : i_Rel k u v) (hk : k + 4 ≤ 2048) (v1 : Int32) : wpX_constant (fun r u' => wpY_constant (fun r' v' => r' = r ∧ i_Rel (k + 4) u' v') v v1) u v1 := by
  obtain ⟨e, tk, pt, op, ch, ty, hs, bc, bt, yq, yr, pa, pq, pv, yt, so, lo, to, fi, le, be, bo, sa, rfl, rfl, hw, hq⟩ := I
  have R0 : i_Rel (k + 4) (nI (ov_nc e), nI (ov_ac e), so, lo, ov_C (ov_cv e), ov_A (ov_st e), ov_A (ov_sc e), ov_A (ov_hd e), ov_A (ov_vs e), ov_A (ov_lt e), ov_A (ov_kd e), ov_A (ov_ct e), ov_A (ov_lf e), ov_A (ov_rt e), tk, pt, op, ch, ty, hs, bc, bt) (nI (ov_nc e), to, fi, le, be, bo, sa, ov_C (ov_cv e), ov_A (ov_hd e), ov_A (ov_s9 e), ov_A (ov_s3 e), ov_A (ov_s1 e), ov_A (ov_sc e), ov_A (ov_vs e), ov_A (ov_lt e), ov_A (ov_kd e), ov_A (ov_ct e), yq, yr, tk, pa, pq, pv, yt) := ov_mkR hw hq
  have h12 := hw.1
  unfold wpX_constant wpY_constant
  dsimp only
  by_cases h1 : ov_in 0 3 v1
  · refine ox_isType_t h1 (br_f ov_10 (pk_lt (ov_nc e) 12 (fun hn => ?_) (fun hn => ?_)))
    · obtain ⟨s, hs1, hs8, rfl⟩ := h1
      refine ox_addNode (kk := 2) hn ?_
      refine oy_badType_t ⟨s, hs1, hs8, rfl⟩ (br_t rfl (oy_node (kk := 2) hn ⟨rfl, ?_⟩))
      exact ov_ad_R (kk := 2) hw hq hn (by omega) (by omega) (fun h => nomatch h) (fun h => by omega) (fun h => nomatch h) (fun _ _ => ⟨rfl, rfl⟩) hw.2.2.2.2.2.2.2.2.2 (fun h => nomatch h)
    · exact oy_badType_t h1 (br_t rfl (oy_node_f hw (by omega) ⟨rfl, R0⟩))
  · exact ox_isType_f h1 (br_t rfl (oy_badType_f h1 (br_f ov_10 ⟨rfl, R0⟩)))
section
variable {e : ov_E} {tk pt op ch ty hs bc bt yq yr pa pq pv yt : Nat → Int32} {so lo to fi le be bo sa : Int32}
theorem oy_applications {post : Int32 → Prop} (hw : ov_W e) (hp : post (nI (ov_ac e))) : wpY_applications post (nI (ov_nc e), to, fi, le, be, bo, sa, ov_C (ov_cv e), ov_A (ov_hd e), ov_A (ov_s9 e), ov_A (ov_s3 e), ov_A (ov_s1 e), ov_A (ov_sc e), ov_A (ov_vs e), ov_A (ov_lt e), ov_A (ov_kd e), ov_A (ov_ct e), yq, yr, tk, pa, pq, pv, yt) := by
  have h12 := hw.1
  refine loop_0 (fun n i (_ : Unit) => wY_applications_4 post (nI (ov_nc e)) to fi le be bo sa (ov_C (ov_cv e)) (ov_A (ov_hd e)) (ov_A (ov_s9 e)) (ov_A (ov_s3 e)) (ov_A (ov_s1 e)) (ov_A (ov_sc e)) (ov_A (ov_vs e)) (ov_A (ov_lt e)) (ov_A (ov_kd e)) (ov_A (ov_ct e)) yq yr tk pa pq pv yt n (nI (ov_cn (ov_ap e) i)) (nI i)) (fun _ _ => True) (ov_nc e) () trivial (fun n s _ => ?_) (fun n i s hi _ hk => ?_)
  · exact br_t (nI_le (Nat.le_refl _) (by omega)) hp
  · have hN := hw.2.2.2.2.2.2.2.2.1 i hi
    have hs : ov_cn (ov_ap e) (i + 1) = ov_cn (ov_ap e) i + (if ov_ap e i = true then 1 else 0) := rfl
    have hk' := hk () trivial
    refine br_f (nI_ge hi (by omega)) (br_f (nI_ge (b := 12) (by omega) (by omega)) ⟨vp_in_nI (by omega) (by omega), pk_eq (ov_kd e i) 3 (fun h3 => ?_) (fun h3 => ?_) (ov_AV (by omega)) rfl (by have := hN.1; omega) (by omega)⟩)
    · rw [hs, if_pos (show ov_ap e i = true from decide_eq_true h3)] at hk'
      exact nm_r (nI_1 _) (nm_r (nI_1 _) hk')
    · rw [hs, if_neg (by unfold ov_ap; rw [decide_eq_false h3]; exact Bool.false_ne_true)] at hk'
      exact nm_r (nI_1 _) hk'
end
theorem ov_tk {tk : Nat → Int32} {n l m : Nat} (hl : l < n) (hm : m < n) : upd (upd (upd tk n 0) l 1) m 1 = upd (upd (upd tk l 1) m 1) n 0 := by
  funext j
  by_cases h1 : j = m
  · subst h1; rw [pk_us, pk_un (by omega), pk_us]
  · rw [pk_un h1]
    by_cases h2 : j = l
    · subst h2; rw [pk_us, pk_un (by omega), pk_un h1, pk_us]
    · rw [pk_un h2]
      by_cases h3 : j = n
      · subst h3; rw [pk_us, pk_us]
      · rw [pk_un h3, pk_un h3, pk_un h1, pk_un h2]
theorem i_vc_apply {k : Nat} {u : SX} {v : SY} (I : i_Rel k u v) (hk : k + 4 ≤ 2048) (v1 : Int32) (v2 : Int32) (v3 : Int32) : wpX_apply (fun r u' => wpY_apply (fun r' v' => r' = r ∧ i_Rel (k + 4) u' v') v v1 v2 v3) u v1 v2 v3 := by
  obtain ⟨e, tk, pt, op, ch, ty, hs, bc, bt, yq, yr, pa, pq, pv, yt, so, lo, to, fi, le, be, bo, sa, rfl, rfl, hw, hq⟩ := I
  have R0 : i_Rel (k + 4) (nI (ov_nc e), nI (ov_ac e), so, lo, ov_C (ov_cv e), ov_A (ov_st e), ov_A (ov_sc e), ov_A (ov_hd e), ov_A (ov_vs e), ov_A (ov_lt e), ov_A (ov_kd e), ov_A (ov_ct e), ov_A (ov_lf e), ov_A (ov_rt e), tk, pt, op, ch, ty, hs, bc, bt) (nI (ov_nc e), to, fi, le, be, bo, sa, ov_C (ov_cv e), ov_A (ov_hd e), ov_A (ov_s9 e), ov_A (ov_s3 e), ov_A (ov_s1 e), ov_A (ov_sc e), ov_A (ov_vs e), ov_A (ov_lt e), ov_A (ov_kd e), ov_A (ov_ct e), yq, yr, tk, pa, pq, pv, yt) := ov_mkR hw hq
  have h12 := hw.1
  have ha3 := hw.2.2.2.2.2.2.2.2.2
  unfold wpX_apply wpY_apply
  dsimp only
  by_cases h1 : ov_in 0 3 v1
  · refine ox_isOperator_t h1 (br_f ov_10 ?_)
    by_cases h2 : ov_in 0 (ov_nc e) v2
    · refine ox_isNode_t hw h2 (br_f ov_10 ?_)
      by_cases h3 : ov_in 0 (ov_nc e) v3
      · refine ox_isNode_t hw h3 (br_f ov_10 ?_)
        by_cases h4 : v2 = v3
        · exact br_t h4 (oy_badOp_t h1 (br_t rfl (oy_badNode_t hw h2 (br_t rfl (oy_badNode_t hw h3 (br_t rfl (br_t h4 ⟨rfl, R0⟩)))))))
        · have h1' := h1
          have h2' := h2
          have h3' := h3
          obtain ⟨o, _, ho, rfl⟩ := h1
          obtain ⟨l, _, hl, rfl⟩ := h2
          obtain ⟨m, _, hm, rfl⟩ := h3
          have il : vp_in (nI l) 12 := vp_in_nI (by omega) (by omega)
          have im : vp_in (nI m) 12 := vp_in_nI (by omega) (by omega)
          refine br_f h4 ⟨il, ?_⟩
          by_cases h5 : tk (nI l).toNatClampNeg = 0
          · refine br_t h5 ⟨im, ?_⟩
            by_cases h6 : tk (nI m).toNatClampNeg = 0
            · refine br_t h6 (pk_le 12 (ov_nc e) (fun h7 => ?_) (fun h7 => pk_lt (ov_ac e) 3 (fun h8 => ?_) (fun h8 => ?_)))
              · exact oy_badOp_t h1' (br_t rfl (oy_badNode_t hw h2' (br_t rfl (oy_badNode_t hw h3' (br_t rfl (br_f h4 ⟨il, br_t h5 ⟨im, br_t h6 (pk_eq (ov_nc e) 12 (fun _ => ⟨rfl, R0⟩) (fun z => absurd z (by omega)))⟩⟩))))))
              · refine ox_addNode (kk := 3) h7 ?_
                have hn : vp_in (nI (ov_nc e)) 12 := vp_in_nI h7 (by omega)
                refine ⟨hn, nm_r (ov_AU (by omega)) ⟨hn, nm_r (ov_AU (by omega)) ⟨il, nm_r (e' := upd (upd tk (ov_nc e) 0) l 1) (by rw [ov_nb1, nI_clamp (by omega)]) ⟨im, nm_r (e' := upd (upd (upd tk l 1) m 1) (ov_nc e) 0) (by rw [ov_nb1, nI_clamp (by omega), ov_tk hl hm]) (nm_r (nI_1 _) ?_)⟩⟩⟩⟩
                refine oy_badOp_t h1' (br_t rfl (oy_badNode_t hw h2' (br_t rfl (oy_badNode_t hw h3' (br_t rfl (br_f h4 ⟨il, br_t h5 ⟨im, br_t h6 (pk_eq (ov_nc e) 12 (fun z => absurd z (by omega)) (fun _ => oy_applications hw (pk_eq (ov_ac e) 3 (fun z => absurd z (by omega)) (fun _ => ?_))))⟩⟩))))))
                refine ⟨il, nm_r (e' := upd tk l 1) (by rw [ov_nb1, nI_clamp (by omega)]) ⟨im, nm_r (e' := upd (upd tk l 1) m 1) (by rw [ov_nb1, nI_clamp (by omega)]) ?_⟩⟩
                refine oy_node (kk := 3) h7 ⟨rfl, ?_⟩
                exact ov_ad_R (kk := 3) hw hq h7 (by omega) (by omega) (fun h => nomatch h) (fun h => nomatch h) (fun _ => ⟨ho, by rw [ov_us]; exact hl, by rw [ov_us]; exact hm⟩) (fun j hj => ⟨ov_un (by omega), ov_un (by omega)⟩) (by rw [if_pos rfl]; omega) (fun _ => ⟨by rw [ov_us], by rw [ov_us]⟩)
              · exact oy_badOp_t h1' (br_t rfl (oy_badNode_t hw h2' (br_t rfl (oy_badNode_t hw h3' (br_t rfl (br_f h4 ⟨il, br_t h5 ⟨im, br_t h6 (pk_eq (ov_nc e) 12 (fun z => absurd z (by omega)) (fun _ => oy_applications hw (pk_eq (ov_ac e) 3 (fun _ => ⟨rfl, R0⟩) (fun z => absurd z (by omega)))))⟩⟩))))))
            · exact br_f h6 (oy_badOp_t h1' (br_t rfl (oy_badNode_t hw h2' (br_t rfl (oy_badNode_t hw h3' (br_t rfl (br_f h4 ⟨il, br_t h5 ⟨im, br_f h6 ⟨rfl, R0⟩⟩⟩)))))))
          · exact br_f h5 (oy_badOp_t h1' (br_t rfl (oy_badNode_t hw h2' (br_t rfl (oy_badNode_t hw h3' (br_t rfl (br_f h4 ⟨il, br_f h5 ⟨rfl, R0⟩⟩)))))))
      · exact ox_isNode_f hw h3 (br_t rfl (oy_badOp_t h1 (br_t rfl (oy_badNode_t hw h2 (br_t rfl (oy_badNode_f hw h3 (br_f ov_10 ⟨rfl, R0⟩)))))))
    · exact ox_isNode_f hw h2 (br_t rfl (oy_badOp_t h1 (br_t rfl (oy_badNode_f hw h2 (br_f ov_10 ⟨rfl, R0⟩)))))
  · exact ox_isOperator_f h1 (br_t rfl (oy_badOp_f h1 (br_f ov_10 ⟨rfl, R0⟩)))
