/-- the same sites, parameters and counts on both sides; each parameter is 0 to 1000 -/
def i_Rel (_ : Nat) (u : SX) (v : SY) : Prop := ∃ (a : Nat → Int32) (p : Nat → Nat) (c : Nat → Int32), u = (a, fun j => nI (p j), c) ∧ v = (fun j => nI (p j), a, c) ∧ ∀ j, p j ≤ 1000
theorem i_up {k : Nat} {u : SX} {v : SY} (h : i_Rel k u v) : i_Rel (k + 3) u v := h
theorem i_vc0 : wpX_init (fun u => wpY_init (fun v => i_Rel 0 u v)) := by
  obtain ⟨q, hq, hX, hY⟩ := kl_init (a := fun _ => 0) (co := fun _ => 0) 7 0 rfl (fun _ => 0) (fun _ => Nat.zero_le _)
  exact ⟨8, hX _ ⟨8, hY _ ⟨_, q, _, rfl, rfl, hq⟩⟩⟩
theorem i_vc_rate {k : Nat} {u : SX} {v : SY} (I : i_Rel k u v) (hk : k + 3 ≤ 1536) (v1 : Int32) (v2 : Int32) : wpX_rate (fun r u' => wpY_rate (fun r' v' => r' = r ∧ i_Rel (k + 3) u' v') v v1 v2) u v1 v2 := by
  obtain ⟨a, p, c, rfl, rfl, hp⟩ := I
  by_cases h0 : v1 < 0
  · exact br_t h0 (br_t h0 ⟨rfl, a, p, c, rfl, rfl, hp⟩)
  · obtain ⟨w, hw, rfl⟩ := nI_of h0
    by_cases h7 : w < 7
    · have hX : nI w < 7 := nI_lt (b := 7) h7 (by decide)
      have hY : nI w ≤ 6 := nI_le (b := 6) (by omega) (by decide)
      by_cases g0 : v2 < 0
      · exact br_f h0 (br_t hX (br_t g0 (br_f h0 (br_t hY (br_t g0 ⟨rfl, a, p, c, rfl, rfl, hp⟩)))))
      · by_cases g1 : v2 ≤ 1000
        · obtain ⟨m, hm, rfl⟩ := nI_of2 (M := 1000) (n := 1000) (by decide) g0 g1
          obtain ⟨q, hq, e⟩ := kl_upd (p := p) (k := (nI w).toNatClampNeg) hp hm
          have hin : vp_in (nI w) 7 := vp_in_nI h7 (by decide)
          exact br_f h0 (br_t hX (br_f g0 (br_t g1 ⟨hin, nm_e ⟨hin, nm_r e (br_f h0 (br_t hY (br_f g0 (br_t g1 ⟨hin, nm_e ⟨hin, nm_r e ⟨rfl, a, q, c, rfl, rfl, hq⟩⟩⟩))))⟩⟩)))
        · exact br_f h0 (br_t hX (br_f g0 (br_f g1 (br_f h0 (br_t hY (br_f g0 (br_f g1 ⟨rfl, a, p, c, rfl, rfl, hp⟩)))))))
    · have hX : ¬ nI w < 7 := nI_nlt (b := 7) (by omega) hw
      have hY : ¬ nI w ≤ 6 := nI_ge (a := 6) (by omega) hw
      exact br_f h0 (br_f hX (br_f h0 (br_f hY ⟨rfl, a, p, c, rfl, rfl, hp⟩)))
theorem kl_site {x : Int32} {post : Int32 → Prop} (hb : x < 0 → post 0) (hl : ¬ x < 0 → ¬ x ≤ 47 → post 0) (hi : ∀ s, s < 48 → x = nI s → post 1) : wpX_isSite post x := by
  by_cases h0 : x < 0
  · exact br_t h0 (hb h0)
  · obtain ⟨w, hw, rfl⟩ := nI_of h0
    by_cases h : w < 48
    · exact br_f h0 (br_f (nI_ge (b := 48) h (by decide)) (hi w h rfl))
    · exact br_f h0 (br_t (nI_le (a := 48) (by omega) hw) (hl h0 (nI_ge (a := 47) (by omega) hw)))
theorem i_vc_set {k : Nat} {u : SX} {v : SY} (I : i_Rel k u v) (hk : k + 3 ≤ 1536) (v1 : Int32) (v2 : Int32) : wpX_set (fun r u' => wpY_set (fun r' v' => r' = r ∧ i_Rel (k + 3) u' v') v v1 v2) u v1 v2 := by
  obtain ⟨a, p, c, rfl, rfl, hp⟩ := I
  unfold wpX_set
  dsimp only
  refine kl_site (fun h0 => ?_) (fun h0 h1 => ?_) (fun s hs e => ?_)
  · exact br_t rfl (br_t h0 ⟨rfl, a, p, c, rfl, rfl, hp⟩)
  · exact br_t rfl (br_f h0 (br_f h1 ⟨rfl, a, p, c, rfl, rfl, hp⟩))
  subst e
  have h0 : ¬ nI s < 0 := nI_pos (by omega)
  have hY : nI s ≤ 47 := nI_le (b := 47) (by omega) (by decide)
  have hin : vp_in (nI s) 48 := vp_in_nI hs (by decide)
  refine br_f (by decide) ?_
  by_cases g0 : v2 < 0
  · exact br_t g0 (br_f h0 (br_t hY (br_t g0 ⟨rfl, a, p, c, rfl, rfl, hp⟩)))
  · by_cases g1 : v2 ≤ 2
    · exact br_f g0 (br_t g1 ⟨hin, nm_e ⟨hin, nm_e (br_f h0 (br_t hY (br_f g0 (br_t g1 ⟨hin, nm_e ⟨hin, nm_e ⟨rfl, _, p, c, rfl, rfl, hp⟩⟩⟩))))⟩⟩)
    · exact br_f g0 (br_f g1 (br_f h0 (br_t hY (br_f g0 (br_f g1 ⟨rfl, a, p, c, rfl, rfl, hp⟩)))))
theorem i_vc_step {k : Nat} {u : SX} {v : SY} (I : i_Rel k u v) (hk : k + 3 ≤ 1536) (v1 : Int32) : wpX_step (fun r u' => wpY_step (fun r' v' => r' = r ∧ i_Rel (k + 3) u' v') v v1) u v1 := by
  obtain ⟨a, p, c, rfl, rfl, hp⟩ := I
  have hb := kl_sB_le (a := a) hp 48
  refine kl_xsB48 ?_
  by_cases h0 : v1 < 0
  · exact br_t h0 (br_t h0 ⟨rfl, a, p, c, rfl, rfl, hp⟩)
  · obtain ⟨r, hr, rfl⟩ := nI_of h0
    refine br_f h0 ?_
    by_cases h1 : r < kl_sB a p 48
    · obtain ⟨x, a', c', hX, hY⟩ := kl_one (co := c) hp h1
      exact br_t (nI_lt h1 (by omega)) (hX _ (hY _ ⟨rfl, a', p, c', rfl, rfl, hp⟩))
    · have h2 : ¬ nI r < nI (kl_sB a p 48) := nI_nlt (by omega) hr
      exact br_f h2 (br_f h0 (kl_yto (br_f h2 ⟨rfl, a, p, c, rfl, rfl, hp⟩)))
theorem i_vc_run {k : Nat} {u : SX} {v : SY} (I : i_Rel k u v) (hk : k + 3 ≤ 1536) (v1 : Int32) (v2 : Int32) : wpX_run (fun r u' => wpY_run (fun r' v' => r' = r ∧ i_Rel (k + 3) u' v') v v1 v2) u v1 v2 := by
  obtain ⟨a, p, c, rfl, rfl, hp⟩ := I
  by_cases h0 : 0 ≤ v1
  · obtain ⟨n, hn, rfl⟩ := nI_of (x := v1) (Int32.not_lt.mpr h0)
    by_cases h1 : n ≤ 200
    · obtain ⟨r, a', c', hX, hY⟩ := kl_run hp (v := nI n) h1 (fun j hj => nI_ge hj hn) (Or.inl (nI_le (Nat.le_refl n) hn)) n 0 (Nat.zero_add n) v2 a c
      exact br_t h0 (br_t (nI_le (b := 200) h1 (by decide)) ⟨n + 1, hX _ ⟨n + 1, hY _ ⟨rfl, a', p, c', rfl, rfl, hp⟩⟩⟩)
    · obtain ⟨r, a', c', hX, hY⟩ := kl_run hp (v := nI n) (Nat.le_refl 200) (fun j hj => nI_ge (by omega) hn) (Or.inr rfl) 200 0 rfl v2 a c
      exact br_t h0 (br_f (nI_ge (a := 200) (by omega) hn) ⟨201, hX _ ⟨201, hY _ ⟨rfl, a', p, c', rfl, rfl, hp⟩⟩⟩)
  · have h0' : v1 ≤ nI 0 := Int32.le_of_lt (Int32.not_le.mp h0)
    obtain ⟨r, a', c', hX, hY⟩ := kl_run hp (v := v1) (Nat.zero_le 200) (fun j hj => absurd hj (Nat.not_lt_zero j)) (Or.inl h0') 0 0 rfl v2 a c
    exact br_f h0 ⟨1, hX _ ⟨1, hY _ ⟨rfl, a', p, c', rfl, rfl, hp⟩⟩⟩
theorem i_vc_clear {k : Nat} {u : SX} {v : SY} (I : i_Rel k u v) (hk : k + 3 ≤ 1536) : wpX_clear (fun u' => wpY_clear (fun v' => i_Rel (k + 3) u' v') v) u := by
  obtain ⟨a, p, c, rfl, rfl, hp⟩ := I
  obtain ⟨a', hX, hY⟩ := kl_clear (pa := fun j => nI (p j)) (co := c) 48 0 rfl a
  exact ⟨49, hX _ ⟨49, hY _ ⟨a', p, c, rfl, rfl, hp⟩⟩⟩
theorem i_vc_state {k : Nat} {u : SX} {v : SY} (I : i_Rel k u v) (hk : k + 3 ≤ 1536) (v1 : Int32) : wpX_state (fun r => wpY_state (fun r' => r' = r ∧ i_Rel (k + 3) u v) v v1) u v1 := by
  obtain ⟨a, p, c, rfl, rfl, hp⟩ := I
  unfold wpX_state
  dsimp only
  refine kl_site (fun h0 => ?_) (fun h0 h1 => ?_) (fun s hs e => ?_)
  · exact br_t rfl (br_t h0 ⟨rfl, a, p, c, rfl, rfl, hp⟩)
  · exact br_t rfl (br_f h0 (br_f h1 ⟨rfl, a, p, c, rfl, rfl, hp⟩))
  subst e
  have hin : vp_in (nI s) 48 := vp_in_nI hs (by decide)
  exact br_f (by decide) ⟨hin, br_f (nI_pos (by omega)) (br_t (nI_le (b := 47) (by omega) (by decide)) ⟨hin, rfl, a, p, c, rfl, rfl, hp⟩)⟩
theorem i_vc_total {k : Nat} {u : SX} {v : SY} (I : i_Rel k u v) (hk : k + 3 ≤ 1536) : wpX_total (fun r => wpY_total (fun r' => r' = r ∧ i_Rel (k + 3) u v) v) u := by
  obtain ⟨a, p, c, rfl, rfl, hp⟩ := I
  refine kl_xsB48 ?_
  exact kl_yto ⟨rfl, a, p, c, rfl, rfl, hp⟩
theorem i_vc_siteRate {k : Nat} {u : SX} {v : SY} (I : i_Rel k u v) (hk : k + 3 ≤ 1536) (v1 : Int32) : wpX_siteRate (fun r => wpY_siteRate (fun r' => r' = r ∧ i_Rel (k + 3) u v) v v1) u v1 := by
  obtain ⟨a, p, c, rfl, rfl, hp⟩ := I
  unfold wpX_siteRate
  dsimp only
  refine kl_site (fun h0 => ?_) (fun h0 h1 => ?_) (fun s hs e => ?_)
  · exact br_t rfl (br_t h0 ⟨rfl, a, p, c, rfl, rfl, hp⟩)
  · exact br_t rfl (br_f h0 (br_f h1 ⟨rfl, a, p, c, rfl, rfl, hp⟩))
  subst e
  exact br_f (by decide) (kl_xsA hs (kl_ysR hs ⟨rfl, a, p, c, rfl, rfl, hp⟩))
theorem i_vc_occupied {k : Nat} {u : SX} {v : SY} (I : i_Rel k u v) (hk : k + 3 ≤ 1536) : wpX_occupied (fun r => wpY_occupied (fun r' => r' = r ∧ i_Rel (k + 3) u v) v) u := by
  obtain ⟨a, p, c, rfl, rfl, hp⟩ := I
  obtain ⟨r, hX, hY⟩ := kl_occ (a := a) (pa := fun j => nI (p j)) (co := c) 48 0 rfl 0
  exact ⟨49, hX _ ⟨49, hY _ ⟨rfl, a, p, c, rfl, rfl, hp⟩⟩⟩
theorem i_vc_pairs {k : Nat} {u : SX} {v : SY} (I : i_Rel k u v) (hk : k + 3 ≤ 1536) : wpX_pairs (fun r => wpY_pairs (fun r' => r' = r ∧ i_Rel (k + 3) u v) v) u := by
  obtain ⟨a, p, c, rfl, rfl, hp⟩ := I
  exact kl_xpa (kl_ypa ⟨rfl, a, p, c, rfl, rfl, hp⟩)
theorem i_vc_happened {k : Nat} {u : SX} {v : SY} (I : i_Rel k u v) (hk : k + 3 ≤ 1536) (v1 : Int32) : wpX_happened (fun r => wpY_happened (fun r' => r' = r ∧ i_Rel (k + 3) u v) v v1) u v1 := by
  obtain ⟨a, p, c, rfl, rfl, hp⟩ := I
  by_cases h0 : v1 < 0
  · exact br_t h0 (br_t h0 ⟨rfl, a, p, c, rfl, rfl, hp⟩)
  · obtain ⟨w, hw, rfl⟩ := nI_of h0
    by_cases h3 : w < 3
    · have hin : vp_in (nI w) 3 := vp_in_nI h3 (by decide)
      exact br_f h0 (br_t (nI_lt (b := 3) h3 (by decide)) ⟨hin, br_f h0 (br_t (nI_le (b := 2) (by omega) (by decide)) ⟨hin, rfl, a, p, c, rfl, rfl, hp⟩)⟩)
    · exact br_f h0 (br_f (nI_nlt (b := 3) (by omega) hw) (br_f h0 (br_f (nI_ge (a := 2) (by omega) hw) ⟨rfl, a, p, c, rfl, rfl, hp⟩)))
theorem i_vc_before {k : Nat} {u : SX} {v : SY} (I : i_Rel k u v) (hk : k + 3 ≤ 1536) (v1 : Int32) : wpX_before (fun r => wpY_before (fun r' => r' = r ∧ i_Rel (k + 3) u v) v v1) u v1 := by
  obtain ⟨a, p, c, rfl, rfl, hp⟩ := I
  by_cases h0 : 0 ≤ v1
  · obtain ⟨n, hn, rfl⟩ := nI_of (x := v1) (Int32.not_lt.mpr h0)
    by_cases h1 : n ≤ 48
    · exact br_t h0 (br_t (nI_le (b := 48) h1 (by decide)) (kl_xsB h1 (kl_ybe n h1 (fun j hj => nI_ge hj hn) (Or.inl (nI_le (Nat.le_refl n) hn)) ⟨rfl, a, p, c, rfl, rfl, hp⟩)))
    · exact br_t h0 (br_f (nI_ge (a := 48) (by omega) hn) (kl_xsB48 (kl_ybe 48 (Nat.le_refl 48) (fun j hj => nI_ge (by omega) hn) (Or.inr rfl) ⟨rfl, a, p, c, rfl, rfl, hp⟩)))
  · have h0' : v1 ≤ nI 0 := Int32.le_of_lt (Int32.not_le.mp h0)
    exact br_f h0 (kl_xsB (e := 0) (Nat.zero_le 48) (kl_ybe 0 (Nat.zero_le 48) (fun j hj => absurd hj (Nat.not_lt_zero j)) (Or.inl h0') ⟨rfl, a, p, c, rfl, rfl, hp⟩))
