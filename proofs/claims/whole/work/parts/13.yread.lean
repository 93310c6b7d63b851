/-! Y: the reading of a code -/
def ov_gn (e : ov_E) (pb : Nat → Bool) (d : Nat → Nat) : Nat → Bool
  | 0 => true
  | k + 1 => if pb k = true then (ov_gn e pb d k && ov_g1 e d k) else ov_gn e pb d k
def ov_gv (e : ov_E) (pb : Nat → Bool) (d : Nat → Nat) (g : Bool) : Nat → Bool
  | 0 => g
  | v + 1 => if ov_nm e pb v 12 = true then (ov_gv e pb d g v && ov_bit (ov_vs e v) (d (12 + v))) else ov_gv e pb d g v
def ov_gG (e : ov_E) (pb : Nat → Bool) (d : Nat → Nat) : Bool := ov_gv e pb d (ov_gn e pb d (ov_nc e)) 2
theorem ov_gn_t {e : ov_E} {pb : Nat → Bool} {d : Nat → Nat} : ∀ k, ov_gn e pb d k = true ↔ ∀ n, n < k → pb n = true → ov_g1 e d n = true := by
  intro k
  induction k with
  | zero => exact ⟨fun _ n hn => absurd hn (by omega), fun _ => rfl⟩
  | succ k ih =>
    show (if pb k = true then (ov_gn e pb d k && ov_g1 e d k) else ov_gn e pb d k) = true ↔ _
    by_cases hb : pb k = true
    · rw [if_pos hb, Bool.and_eq_true, ih]
      refine ⟨fun h n hn hp => ?_, fun h => ⟨fun n hn => h n (by omega), h k (by omega) hb⟩⟩
      by_cases hnk : n = k
      · subst hnk; exact h.2
      · exact h.1 n (by omega) hp
    · rw [if_neg hb, ih]
      refine ⟨fun h n hn hp => ?_, fun h n hn => h n (by omega)⟩
      by_cases hnk : n = k
      · subst hnk; exact absurd hp hb
      · exact h n (by omega) hp
theorem ov_gv_t {e : ov_E} {pb : Nat → Bool} {d : Nat → Nat} {g : Bool} : ∀ k, ov_gv e pb d g k = true ↔ g = true ∧ ∀ v, v < k → ov_nm e pb v 12 = true → ov_bit (ov_vs e v) (d (12 + v)) = true := by
  intro k
  induction k with
  | zero => exact ⟨fun h => ⟨h, fun v hv => absurd hv (by omega)⟩, fun h => h.1⟩
  | succ k ih =>
    show (if ov_nm e pb k 12 = true then (ov_gv e pb d g k && ov_bit (ov_vs e k) (d (12 + k))) else ov_gv e pb d g k) = true ↔ _
    by_cases hb : ov_nm e pb k 12 = true
    · rw [if_pos hb, Bool.and_eq_true, ih]
      refine ⟨fun h => ⟨h.1.1, fun n hn hp => ?_⟩, fun h => ⟨⟨h.1, fun n hn => h.2 n (by omega)⟩, h.2 k (by omega) hb⟩⟩
      by_cases hnk : n = k
      · subst hnk; exact h.2
      · exact h.1.2 n (by omega) hp
    · rw [if_neg hb, ih]
      refine ⟨fun h => ⟨h.1, fun n hn hp => ?_⟩, fun h => ⟨h.1, fun n hn => h.2 n (by omega)⟩⟩
      by_cases hnk : n = k
      · subst hnk; exact absurd hp hb
      · exact h.2 n (by omega) hp
theorem ov_gG_t {e : ov_E} (hw : ov_W e) {pb : Nat → Bool} {node : Nat} (hp : ov_P1 e pb node) {d : Nat → Nat} : ov_gG e pb d = true ↔ ov_G e pb d := by
  have h12 := hw.1
  unfold ov_gG
  rw [ov_gv_t, ov_gn_t]
  constructor
  · intro h n hn
    have h1 := hp.2.1 n hn
    have h2 := hp.1
    have hN := hw.2.2.2.2.2.2.2.2.1 n (by omega)
    exact ⟨h.1 n (by omega) hn, fun hk => h.2 _ (hN.2.1 hk) (ov_nm_of hn hk 12 (by omega))⟩
  · intro h
    refine ⟨fun n _ hn => (h n hn).1, fun v _ hv => ?_⟩
    obtain ⟨n, _, h2, h3, h4⟩ := ov_nm_ex 12 hv
    have := (h n h2).2 h3
    rw [h4] at this
    exact this
theorem ov_nbI (b : Bool) : narrow .boolean (.int (ov_bI b)) = .int (ov_bI b) := by cases b <;> rfl
theorem ov_bit0 {A B : Prop} {s t : Nat} (hs : s < 8) (ht : t < 3) (f : ov_bit s t = false → A) (g : ov_bit s t = true → B) : ((((nI s >>> (nI t &&& 31)) &&& 1) = 0 → A) ∧ (¬ ((nI s >>> (nI t &&& 31)) &&& 1) = 0 → B)) := by
  have h2 : s / 2 ^ t % 2 < 2 := Nat.mod_lt _ (by decide)
  unfold ov_bit at f g
  exact pk_eq (s / 2 ^ t % 2) 0 (fun h => f (decide_eq_false (by omega))) (fun h => g (decide_eq_true (by omega))) (ov_tab2 hs ht) rfl (by omega) (by omega)
theorem ov_dgd {b : Nat → Nat} {c i : Nat} : c / ov_P b (i + 1) = c / ov_P b i / b i := by
  rw [show ov_P b (i + 1) = ov_P b i * b i from rfl, Nat.div_div_eq_div_mul]
section
variable {e : ov_E} {tk yq yr pa pq pv yt : Nat → Int32} {to fi le be bo sa : Int32}
theorem oy_read_155 (hw : ov_W e) {pb : Nat → Bool} {node : Nat} (hp : ov_P1 e pb node) (hpa : ∀ j, j < 12 → pa j = ov_bI (pb j)) {c : Nat} (hc : c < ov_P (ov_b e pb ov_4) 14) {g : Bool} {post : Int32 → SY → Prop} (h : ∀ pv', (∀ v, v < 2 → ov_nm e pb v 12 = true → pv' v = nI (ov_rd (ov_b e pb ov_4) 14 c ov_z (12 + v))) → post (ov_bI (ov_gv e pb (ov_rd (ov_b e pb ov_4) 14 c ov_z) g 2)) (nI (ov_nc e), to, fi, le, be, bo, sa, ov_C (ov_cv e), ov_A (ov_hd e), ov_A (ov_s9 e), ov_A (ov_s3 e), ov_A (ov_s1 e), ov_A (ov_sc e), ov_A (ov_vs e), ov_A (ov_lt e), ov_A (ov_kd e), ov_A (ov_ct e), yq, yr, tk, pa, pq, pv', yt)) : ∃ n, wY_read_155 post (nI (ov_nc e)) to fi le be bo sa n (nI (c / ov_P (ov_b e pb ov_4) 12)) (ov_bI g) 0 (ov_C (ov_cv e)) (ov_A (ov_hd e)) (ov_A (ov_s9 e)) (ov_A (ov_s3 e)) (ov_A (ov_s1 e)) (ov_A (ov_sc e)) (ov_A (ov_vs e)) (ov_A (ov_lt e)) (ov_A (ov_kd e)) (ov_A (ov_ct e)) yq yr tk pa pq pv yt := by
  have hP := ov_P14 (e := e) (pb := pb) (a := ov_4) ov_4_le (Nat.le_refl 14)
  generalize hbe : ov_b e pb ov_4 = b at *
  generalize hde : ov_rd b 14 c ov_z = d at *
  refine loop_0 (fun n v s => wY_read_155 post (nI (ov_nc e)) to fi le be bo sa n (nI (c / ov_P b (12 + v))) (ov_bI (ov_gv e pb d g v)) (nI v) (ov_C (ov_cv e)) (ov_A (ov_hd e)) (ov_A (ov_s9 e)) (ov_A (ov_s3 e)) (ov_A (ov_s1 e)) (ov_A (ov_sc e)) (ov_A (ov_vs e)) (ov_A (ov_lt e)) (ov_A (ov_kd e)) (ov_A (ov_ct e)) yq yr tk pa pq s yt) (fun v s => ∀ v', v' < v → ov_nm e pb v' 12 = true → s v' = nI (d (12 + v'))) 2 pv (fun v hv => absurd hv (by omega)) (fun n s hI => ?_) (fun n v s hv hI hk => ?_)
  · exact br_t (nI_le (a := 2) (Nat.le_refl _) (by omega)) ⟨ov_nbI _, h s hI⟩
  · have hq : c / ov_P b (12 + v) ≤ c := Nat.div_le_self _ _
    have hiv : vp_in (nI v) 2 := vp_in_nI hv (by omega)
    have hdv : d (12 + v) = ov_dg b c (12 + v) := by rw [← hde]; exact ov_rd_dg (by omega)
    refine br_f (nI_ge (b := 2) hv (by omega)) (oy_names hw hp hpa hv (ov_pc rfl (fun hb => ?_) (fun hb => ?_)))
    · have hb1 : b (12 + v) = 1 := by rw [← hbe, ov_b_v, if_neg (by rw [hb]; exact Bool.false_ne_true)]
      have hk' := hk s (fun v' hv' hn => by
        by_cases hvv : v' = v
        · subst hvv; rw [hb] at hn; exact absurd hn Bool.false_ne_true
        · exact hI v' (by omega) hn)
      have e1 : ov_P b (12 + (v + 1)) = ov_P b (12 + v) := ov_P1s hb1
      have e2 : ov_gv e pb d g (v + 1) = ov_gv e pb d g v := if_neg (by rw [hb]; exact Bool.false_ne_true)
      rw [e1, e2] at hk'
      exact nm_r (nI_1 _) hk'
    · have hb3 : b (12 + v) = 3 := by rw [← hbe, ov_b_v, if_pos hb]
      have hd3 : d (12 + v) < 3 := by rw [hdv]; unfold ov_dg; rw [hb3]; exact Nat.mod_lt _ (by omega)
      have hdv' : c / ov_P b (12 + v) % 3 = d (12 + v) := by rw [hdv]; unfold ov_dg; rw [hb3]
      have hk' := hk (upd s v (nI (d (12 + v)))) (fun v' hv' hn => by
        by_cases hvv : v' = v
        · subst hvv; exact pk_us
        · rw [pk_un hvv]; exact hI v' (by omega) hn)
      have e1 : c / ov_P b (12 + (v + 1)) = c / ov_P b (12 + v) / 3 := by
        have := ov_dgd (b := b) (c := c) (i := 12 + v)
        rw [hb3] at this; exact this
      have e2 : ov_gv e pb d g (v + 1) = (ov_gv e pb d g v && ov_bit (ov_vs e v) (d (12 + v))) := if_pos hb
      rw [e1, e2] at hk'
      refine ⟨ov_33, hiv, nm_r (e' := upd s v (nI (d (12 + v)))) (by rw [ov_rem3 (by omega), nI_clamp (by omega), hdv']) ⟨ov_33, nm_r (ov_div3 (by omega)) ⟨hiv, hiv, ?_⟩⟩⟩
      rw [ov_AV (by omega), nI_clamp (show v < 2 ^ 31 by omega), pk_us]
      refine ov_bit0 (hw.2.2.2.2.2.1 v) hd3 (fun hbit => ?_) (fun hbit => ?_)
      · rw [hbit, Bool.and_false] at hk'
        exact nm_r (nI_1 _) hk'
      · rw [hbit, Bool.and_true] at hk'
        exact nm_r (nI_1 _) hk'
theorem oy_read (hw : ov_W e) {pb : Nat → Bool} {node : Nat} (hp : ov_P1 e pb node) (hpa : ∀ j, j < 12 → pa j = ov_bI (pb j)) {c : Nat} (hc : c < ov_P (ov_b e pb ov_4) 14) {post : Int32 → SY → Prop} (h : ∀ pq' pv', (∀ j, j < ov_nc e → pq' j = nI (ov_rd (ov_b e pb ov_4) 14 c ov_z j)) → (∀ v, v < 2 → ov_nm e pb v 12 = true → pv' v = nI (ov_rd (ov_b e pb ov_4) 14 c ov_z (12 + v))) → post (ov_bI (ov_gG e pb (ov_rd (ov_b e pb ov_4) 14 c ov_z))) (nI (ov_nc e), to, fi, le, be, bo, sa, ov_C (ov_cv e), ov_A (ov_hd e), ov_A (ov_s9 e), ov_A (ov_s3 e), ov_A (ov_s1 e), ov_A (ov_sc e), ov_A (ov_vs e), ov_A (ov_lt e), ov_A (ov_kd e), ov_A (ov_ct e), yq, yr, tk, pa, pq', pv', yt)) : wpY_read post (nI (ov_nc e), to, fi, le, be, bo, sa, ov_C (ov_cv e), ov_A (ov_hd e), ov_A (ov_s9 e), ov_A (ov_s3 e), ov_A (ov_s1 e), ov_A (ov_sc e), ov_A (ov_vs e), ov_A (ov_lt e), ov_A (ov_kd e), ov_A (ov_ct e), yq, yr, tk, pa, pq, pv, yt) (nI c) := by
  have h12 := hw.1
  have hP := ov_P14 (e := e) (pb := pb) (a := ov_4) ov_4_le (Nat.le_refl 14)
  have hrest : ∀ pq', (∀ j, j < ov_nc e → pq' j = nI (ov_rd (ov_b e pb ov_4) 14 c ov_z j)) → ∃ n, wY_read_155 post (nI (ov_nc e)) to fi le be bo sa n (nI (c / ov_P (ov_b e pb ov_4) 12)) (ov_bI (ov_gn e pb (ov_rd (ov_b e pb ov_4) 14 c ov_z) (ov_nc e))) 0 (ov_C (ov_cv e)) (ov_A (ov_hd e)) (ov_A (ov_s9 e)) (ov_A (ov_s3 e)) (ov_A (ov_s1 e)) (ov_A (ov_sc e)) (ov_A (ov_vs e)) (ov_A (ov_lt e)) (ov_A (ov_kd e)) (ov_A (ov_ct e)) yq yr tk pa pq' pv yt := fun pq' hpq => oy_read_155 hw hp hpa hc (fun pv' hpv => h pq' pv' hpq hpv)
  clear h
  have hPnc := ov_P_nc hw hp (a := ov_4)
  have hb0 := fun (i : Nat) (h1 : i < 12) (h2 : pb i = true) (h3 : ov_kd e i = 0) => ov_b_0 (a := ov_4) h1 h2 h3
  have hb3 := fun (i : Nat) (h1 : i < 12) (h2 : pb i = true) (h3 : ov_kd e i = 3) => ov_b_3 (a := ov_4) h1 h2 h3
  have hb1 := fun (i : Nat) (h1 : i < 12) (h2 : pb i = true → ov_kd e i = 1 ∨ ov_kd e i = 2) => ov_b_1 (a := ov_4) h1 h2
  generalize hbe : ov_b e pb ov_4 = b at *
  generalize hde : ov_rd b 14 c ov_z = d at *
  have H0 : (∃ n, wY_read_7 post (nI (ov_nc e)) to fi le be bo sa n (nI (c / ov_P b 0)) (ov_bI (ov_gn e pb d 0)) (nI 0) (ov_C (ov_cv e)) (ov_A (ov_hd e)) (ov_A (ov_s9 e)) (ov_A (ov_s3 e)) (ov_A (ov_s1 e)) (ov_A (ov_sc e)) (ov_A (ov_vs e)) (ov_A (ov_lt e)) (ov_A (ov_kd e)) (ov_A (ov_ct e)) yq yr tk pa pq pv yt) → wpY_read post (nI (ov_nc e), to, fi, le, be, bo, sa, ov_C (ov_cv e), ov_A (ov_hd e), ov_A (ov_s9 e), ov_A (ov_s3 e), ov_A (ov_s1 e), ov_A (ov_sc e), ov_A (ov_vs e), ov_A (ov_lt e), ov_A (ov_kd e), ov_A (ov_ct e), yq, yr, tk, pa, pq, pv, yt) (nI c) := fun H => by
    have h0 : c / ov_P b 0 = c := Nat.div_one c
    rw [h0] at H
    exact H
  refine H0 (loop_0 (fun n i s => wY_read_7 post (nI (ov_nc e)) to fi le be bo sa n (nI (c / ov_P b i)) (ov_bI (ov_gn e pb d i)) (nI i) (ov_C (ov_cv e)) (ov_A (ov_hd e)) (ov_A (ov_s9 e)) (ov_A (ov_s3 e)) (ov_A (ov_s1 e)) (ov_A (ov_sc e)) (ov_A (ov_vs e)) (ov_A (ov_lt e)) (ov_A (ov_kd e)) (ov_A (ov_ct e)) yq yr tk pa s pv yt) (fun i s => ∀ j, j < i → s j = nI (d j)) (ov_nc e) pq (fun j hj => absurd hj (by omega)) (fun n s hI => ?_) (fun n i s hi hI hk => ?_))
  · have := hrest s hI
    rw [← hPnc] at this
    exact br_t (nI_le (Nat.le_refl _) (by omega)) this
  · have hN := hw.2.2.2.2.2.2.2.2.1 i hi
    have hk3 := hN.1
    have hct := hw.2.2.2.2.2.2.2.1 i
    have hq : c / ov_P b i ≤ c := Nat.div_le_self _ _
    have hiv : vp_in (nI i) 12 := vp_in_nI (by omega) (by omega)
    have hpi : pa (nI i).toNatClampNeg = ov_bI (pb i) := by rw [nI_clamp (by omega)]; exact hpa i (by omega)
    have hdi : d i = ov_dg b c i := by rw [← hde]; exact ov_rd_dg (by omega)
    have same : b i = 1 → ov_gn e pb d (i + 1) = ov_gn e pb d i → wY_read_7 post (nI (ov_nc e)) to fi le be bo sa n (nI (c / ov_P b i)) (ov_bI (ov_gn e pb d i)) (nI (i + 1)) (ov_C (ov_cv e)) (ov_A (ov_hd e)) (ov_A (ov_s9 e)) (ov_A (ov_s3 e)) (ov_A (ov_s1 e)) (ov_A (ov_sc e)) (ov_A (ov_vs e)) (ov_A (ov_lt e)) (ov_A (ov_kd e)) (ov_A (ov_ct e)) yq yr tk pa (upd s i 0) pv yt := fun h1 h2 => by
      have hk' := hk (upd s i 0) (fun j hj => by
        by_cases hji : j = i
        · subst hji
          have : d j = 0 := by rw [hdi]; unfold ov_dg; rw [h1, Nat.mod_one]
          rw [pk_us, this]; rfl
        · rw [pk_un hji]; exact hI j (by omega))
      rw [ov_P1s h1, h2] at hk'
      exact hk'
    have set : ∀ m, b i = m → ∀ g, ov_gn e pb d (i + 1) = g → wY_read_7 post (nI (ov_nc e)) to fi le be bo sa n (nI (c / ov_P b i / m)) (ov_bI g) (nI (i + 1)) (ov_C (ov_cv e)) (ov_A (ov_hd e)) (ov_A (ov_s9 e)) (ov_A (ov_s3 e)) (ov_A (ov_s1 e)) (ov_A (ov_sc e)) (ov_A (ov_vs e)) (ov_A (ov_lt e)) (ov_A (ov_kd e)) (ov_A (ov_ct e)) yq yr tk pa (upd (upd s i 0) i (nI (c / ov_P b i % m))) pv yt := fun m h1 g h2 => by
      have hk' := hk (upd (upd s i 0) i (nI (c / ov_P b i % m))) (fun j hj => by
        by_cases hji : j = i
        · subst hji
          rw [pk_us, hdi]; unfold ov_dg; rw [h1]
        · rw [pk_un hji, pk_un hji]; exact hI j (by omega))
      rw [ov_dgd, h1, h2] at hk'
      exact hk'
    refine br_f (nI_ge hi (by omega)) (br_f (nI_ge (b := 12) (by omega) (by omega)) ⟨hiv, nm_r (e' := upd s i 0) (by rw [nI_clamp (by omega)]) ⟨hiv, ov_pc (b := pb i) hpi (fun hb => ?_) (fun hb => ⟨hiv, pk_eq (ov_kd e i) 0 (fun h0 => ?_) (fun h0 => ?_) (ov_AV (by omega)) rfl (by omega) (by omega)⟩)⟩⟩)
    · refine ⟨hiv, ov_pc (b := pb i) hpi (fun _ => nm_r (nI_1 _) ?_) (fun z => by rw [hb] at z; exact absurd z Bool.false_ne_true)⟩
      exact same (hb1 i (by omega) (fun z => by rw [hb] at z; exact absurd z Bool.false_ne_true)) (if_neg (by rw [hb]; exact Bool.false_ne_true))
    · have hbi := hb0 i (by omega) hb h0
      have hdm : d i = c / ov_P b i % 3 := by rw [hdi]; unfold ov_dg; rw [hbi]
      have hd3 : c / ov_P b i % 3 < 3 := Nat.mod_lt _ (by omega)
      have hg : ov_gn e pb d (i + 1) = (ov_gn e pb d i && ov_bit (ov_ct e i) (c / ov_P b i % 3)) := by
        show (if pb i = true then (ov_gn e pb d i && ov_g1 e d i) else ov_gn e pb d i) = _
        rw [if_pos hb]
        unfold ov_g1
        rw [if_pos h0, hdm]
      refine ⟨ov_33, hiv, nm_r (e' := upd (upd s i 0) i (nI (c / ov_P b i % 3))) (by rw [ov_rem3 (by omega), nI_clamp (by omega)]) ⟨ov_33, nm_r (ov_div3 (by omega)) ⟨hiv, hiv, ?_⟩⟩⟩
      rw [ov_AV (by omega), nI_clamp (show i < 2 ^ 31 by omega), pk_us]
      have fin : ∀ g : Bool, ov_gn e pb d (i + 1) = g → wY_read_87 post (wY_read_7 post (nI (ov_nc e)) to fi le be bo sa n) (nI (c / ov_P b i / 3)) (ov_bI g) (nI i) (nI (ov_nc e)) to fi le be bo sa (ov_C (ov_cv e)) (ov_A (ov_hd e)) (ov_A (ov_s9 e)) (ov_A (ov_s3 e)) (ov_A (ov_s1 e)) (ov_A (ov_sc e)) (ov_A (ov_vs e)) (ov_A (ov_lt e)) (ov_A (ov_kd e)) (ov_A (ov_ct e)) yq yr tk pa (upd (upd s i 0) i (nI (c / ov_P b i % 3))) pv yt := fun g hg' =>
        ⟨hiv, ov_pc (b := pb i) hpi (fun z => by rw [hb] at z; exact absurd z.symm Bool.false_ne_true) (fun _ => ⟨hiv, pk_eq (ov_kd e i) 3 (fun z => absurd z (by omega)) (fun _ => nm_r (nI_1 _) (set 3 hbi g hg')) (ov_AV (by omega)) rfl (by omega) (by omega)⟩)⟩
      refine ov_bit0 hct hd3 (fun hbit => ?_) (fun hbit => ?_)
      · rw [hbit, Bool.and_false] at hg
        exact fin false hg
      · rw [hbit, Bool.and_true] at hg
        exact fin _ hg
    · refine ⟨hiv, ov_pc (b := pb i) hpi (fun z => by rw [hb] at z; exact absurd z.symm Bool.false_ne_true) (fun _ => ⟨hiv, pk_eq (ov_kd e i) 3 (fun h3 => ?_) (fun h3 => ?_) (ov_AV (by omega)) rfl (by omega) (by omega)⟩)⟩
      · have hbi : b i = 4 := hb3 i (by omega) hb h3
        have hc3 := (hN.2.2.2 h3).1
        have hdm : d i = c / ov_P b i % 4 := by rw [hdi]; unfold ov_dg; rw [hbi]
        have hd4 : c / ov_P b i % 4 < 4 := Nat.mod_lt _ (by omega)
        have hh4 := hw.2.2.2.2.1 (ov_ct e i)
        have hg : ov_gn e pb d (i + 1) = (ov_gn e pb d i && decide (c / ov_P b i % 4 < ov_hd e (ov_ct e i))) := by
          show (if pb i = true then (ov_gn e pb d i && ov_g1 e d i) else ov_gn e pb d i) = _
          rw [if_pos hb]
          unfold ov_g1
          rw [if_neg h0, if_pos h3, hdm]
        refine ⟨ov_43, hiv, nm_r (e' := upd (upd s i 0) i (nI (c / ov_P b i % 4))) (by rw [ov_rem4 (by omega), nI_clamp (by omega)]) ⟨ov_43, nm_r (ov_div4 (by omega)) ⟨hiv, hiv, ?_⟩⟩⟩
        rw [ov_AV (by omega), nI_clamp (show i < 2 ^ 31 by omega), pk_us, ov_AV (by omega)]
        refine ⟨vp_in_nI hc3 (by omega), pk_lt (c / ov_P b i % 4) (ov_hd e (ov_ct e i)) (fun hlt => ?_) (fun hge => ?_)⟩
        · rw [decide_eq_true hlt, Bool.and_true] at hg
          exact nm_r (nI_1 _) (set 4 hbi _ hg)
        · rw [decide_eq_false (by omega), Bool.and_false] at hg
          exact nm_r (nI_1 _) (set 4 hbi false hg)
      · refine nm_r (nI_1 _) (same (hb1 i (by omega) (fun _ => by omega)) ?_)
        show (if pb i = true then (ov_gn e pb d i && ov_g1 e d i) else ov_gn e pb d i) = _
        rw [if_pos hb]
        unfold ov_g1
        rw [if_neg h0, if_neg h3, Bool.and_true]
end
