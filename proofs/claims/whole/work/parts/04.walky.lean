/-! the reference's private methods, each with a general post -/
def kl_yf (x y : Int32) : Int32 :=
  if y = 0 then x / 6 * 6 + ((x - x / 6 * 6 + 1) - (x - x / 6 * 6 + 1) / 6 * 6)
  else if y = 1 then x / 6 * 6 + ((x - x / 6 * 6 + 5) - (x - x / 6 * 6 + 5) / 6 * 6)
  else if y = 2 then ((x / 6 + 1) - (x / 6 + 1) / 8 * 8) * 6 + (x - x / 6 * 6)
  else if y = 3 then ((x / 6 + 7) - (x / 6 + 7) / 8 * 8) * 6 + (x - x / 6 * 6)
  else x / 6 * 6 + (x - x / 6 * 6)
theorem kl_yf_tab : ∀ s, s < 48 → ∀ k, k < 4 → kl_yf (nI s) (nI k) = nI (kl_nb s k) := by decide +kernel
theorem kl_yfw {x y : Int32} {ra a ev : Nat → Int32} {post : Int32 → Prop} (h : post (kl_yf x y)) : wpY_neighbour post (ra, a, ev) x y := by
  unfold kl_yf at h
  refine ⟨by decide, nm_e ⟨by decide, nm_e ?_⟩⟩
  by_cases c0 : y = 0
  · rw [if_pos c0] at h
    have c1 : ¬ y = 1 := by rw [c0]; decide
    have c2 : ¬ y = 2 := by rw [c0]; decide
    have c3 : ¬ y = 3 := by rw [c0]; decide
    exact br_t c0 ⟨by decide, nm_e (br_f c1 (br_f c2 (br_f c3 h)))⟩
  · rw [if_neg c0] at h
    refine br_f c0 ?_
    by_cases c1 : y = 1
    · rw [if_pos c1] at h
      have c2 : ¬ y = 2 := by rw [c1]; decide
      have c3 : ¬ y = 3 := by rw [c1]; decide
      exact br_t c1 ⟨by decide, nm_e (br_f c2 (br_f c3 h))⟩
    · rw [if_neg c1] at h
      refine br_f c1 ?_
      by_cases c2 : y = 2
      · rw [if_pos c2] at h
        have c3 : ¬ y = 3 := by rw [c2]; decide
        exact br_t c2 ⟨by decide, nm_e (br_f c3 h)⟩
      · rw [if_neg c2] at h
        refine br_f c2 ?_
        by_cases c3 : y = 3
        · rw [if_pos c3] at h
          exact br_t c3 ⟨by decide, nm_e h⟩
        · rw [if_neg c3] at h
          exact br_f c3 h
theorem kl_ynb {s k : Nat} {ra a ev : Nat → Int32} (hs : s < 48) (hk : k < 4) {post : Int32 → Prop} (h : post (nI (kl_nb s k))) : wpY_neighbour post (ra, a, ev) (nI s) (nI k) := by
  rw [← kl_yf_tab s hs k hk] at h
  exact kl_yfw h
theorem kl_yob4 {ra a ev : Nat → Int32} {s : Nat} (hs : s < 48) {post : Int32 → Prop} (h : post (nI (kl_cn a 1 s 4))) : ∀ d j, j + d = 4 → wY_occupiedBeside_4 post (nI s) ra a ev (d + 1) (nI (kl_cn a 1 s j)) (nI j) := by
  intro d
  induction d with
  | zero =>
    intro j hj
    obtain rfl : j = 4 := by omega
    exact br_t (nI_le (a := 4) (b := 4) (by decide) (by decide)) h
  | succ d ih =>
    intro j hj
    have hn := kl_nb_lt j hs
    have ih' := ih (j + 1) (by omega)
    refine br_f (nI_ge (b := 4) (by omega) (by decide)) (kl_ynb hs (by omega) ⟨vp_in_nI hn (by decide), ?_⟩)
    rw [nI_clamp (by omega)]
    by_cases hc : a (kl_nb s j) = 1
    · rw [kl_cn_t hc] at ih'
      exact br_t hc (nm_r (nI_1 _) (nm_r (nI_1 _) ih'))
    · rw [kl_cn_f hc] at ih'
      exact br_f hc (nm_r (nI_1 _) ih')
theorem kl_yob {ra a ev : Nat → Int32} {s : Nat} (hs : s < 48) {post : Int32 → Prop} (h : post (nI (kl_cn a 1 s 4))) : wpY_occupiedBeside post (ra, a, ev) (nI s) :=
  ⟨5, kl_yob4 hs h 4 0 rfl⟩
theorem kl_yeR {a ev : Nat → Int32} {p : Nat → Nat} {s e : Nat} (hs : s < 48) (he : e < 6) {post : Int32 → Prop} (h : post (nI (kl_eR a p s e))) : wpY_eventRate post (fun j => nI (p j), a, ev) (nI s) (nI e) := by
  have hin : vp_in (nI s) 48 := vp_in_nI hs (by decide)
  refine ⟨hin, ?_⟩
  rw [nI_clamp (by omega)]
  unfold kl_eR at h
  by_cases h0 : a s = 0
  · rw [if_pos h0] at h
    refine br_t h0 (pk_eq e 0 (fun c => ?_) (fun c => ?_))
    · rw [if_pos c] at h
      exact h
    · rw [if_neg c] at h
      exact h
  · rw [if_neg h0] at h
    refine br_f h0 ⟨hin, ?_⟩
    by_cases h2 : a s = 2
    · rw [if_pos h2] at h
      exact br_t h2 h
    · rw [if_neg h2] at h
      refine br_f h2 (pk_eq e 0 (fun c => ?_) (fun c => pk_eq e 1 (fun d => ?_) (fun d => ?_)))
      · rw [if_pos c] at h
        exact h
      · rw [if_neg c, if_pos d] at h
        have hn := kl_cn_le a 1 s 4
        refine kl_yob hs ⟨vp_in_nI (by omega) (by decide), ?_⟩
        rw [nI_clamp (by omega)]
        exact h
      · rw [if_neg c, if_neg d] at h
        have es : nI e - 2 = nI (e - 2) := pk_sub (b := 2) (by omega)
        rw [es]
        have hn := kl_nb_lt (e - 2) hs
        refine kl_ynb hs (by omega) ⟨vp_in_nI hn (by decide), ?_⟩
        rw [nI_clamp (by omega)]
        by_cases hz : a (kl_nb s (e - 2)) = 0
        · rw [if_pos hz] at h
          exact br_t hz h
        · rw [if_neg hz] at h
          exact br_f hz h
theorem kl_ysR16 {a ev : Nat → Int32} {p : Nat → Nat} {s : Nat} (hs : s < 48) {post : Int32 → Prop} (h : post (nI (kl_sA a p s))) : ∀ d j, j + d = 6 → wY_siteRate_16 post (nI s) (fun j => nI (p j)) a ev (d + 1) (nI (kl_sS a p s j)) (nI j) := by
  intro d
  induction d with
  | zero =>
    intro j hj
    obtain rfl : j = 6 := by omega
    rw [kl_sS_6]
    exact br_t (nI_le (a := 6) (b := 6) (by decide) (by decide)) h
  | succ d ih =>
    intro j hj
    exact br_f (nI_ge (b := 6) (by omega) (by decide)) (kl_yeR hs (by omega) (nm_r (nI_add _ _) (nm_r (nI_1 _) (ih (j + 1) (by omega)))))
theorem kl_ysR {a ev : Nat → Int32} {p : Nat → Nat} {s : Nat} (hs : s < 48) {post : Int32 → Prop} (h : post (nI (kl_sA a p s))) : wpY_siteRate post (fun j => nI (p j), a, ev) (nI s) :=
  br_f (nI_pos (by omega)) (br_t (nI_le (b := 47) (by omega) (by decide)) ⟨7, kl_ysR16 hs h 6 0 rfl⟩)
theorem kl_ybe4 {a ev : Nat → Int32} {p : Nat → Nat} {x : Int32} {e : Nat} (he : e ≤ 48) (hx : ∀ j, j < e → ¬ x ≤ nI j) (hy : x ≤ nI e ∨ e = 48) {post : Int32 → Prop} (h : post (nI (kl_sB a p e))) : ∀ d j, j + d = e → wY_before_4 post x (fun j => nI (p j)) a ev (d + 1) (nI (kl_sB a p j)) (nI j) := by
  intro d
  induction d with
  | zero =>
    intro j hj
    obtain rfl : j = e := by omega
    by_cases c : x ≤ nI j
    · exact br_t c h
    · have e48 : j = 48 := by
        cases hy with
        | inl hy => exact absurd hy c
        | inr hy => exact hy
      exact br_f c (br_t (nI_le (a := 48) (by omega) (by omega)) h)
  | succ d ih =>
    intro j hj
    exact br_f (hx j (by omega)) (br_f (nI_ge (b := 48) (by omega) (by decide)) (kl_ysR (by omega) (nm_r (nI_add _ _) (nm_r (nI_1 _) (ih (j + 1) (by omega))))))
theorem kl_ybe {a ev : Nat → Int32} {p : Nat → Nat} {x : Int32} (e : Nat) (he : e ≤ 48) (hx : ∀ j, j < e → ¬ x ≤ nI j) (hy : x ≤ nI e ∨ e = 48) {post : Int32 → Prop} (h : post (nI (kl_sB a p e))) : wpY_before post (fun j => nI (p j), a, ev) x :=
  ⟨e + 1, kl_ybe4 he hx hy h e 0 (Nat.zero_add e)⟩
theorem kl_yto {a ev : Nat → Int32} {p : Nat → Nat} {post : Int32 → Prop} (h : post (nI (kl_sB a p 48))) : wpY_total post (fun j => nI (p j), a, ev) :=
  kl_ybe (x := 48) 48 (Nat.le_refl 48) (fun j hj => nI_ge (b := 48) hj (by decide)) (Or.inr rfl) h
theorem kl_yhap {ra a ev : Nat → Int32} {s e : Nat} (hs : s < 48) (he : e < 6) {post : Int32 → SY → Prop} (h : post (kl_vR s e) (ra, kl_vS a s e, kl_vC ev e)) : wpY_happen post (ra, a, ev) (nI s) (nI e) := by
  have hin : vp_in (nI s) 48 := vp_in_nI hs (by decide)
  have hcl : (nI s).toNatClampNeg = s := nI_clamp (by omega)
  match e, he, h with
  | 0, _, h =>
    refine br_t rfl ⟨hin, nm_e (br_t (by decide) (br_f (by decide) ⟨pk_in 0 3 (by decide), pk_in 0 3 (by decide), nm_e (br_f (by decide) ?_)⟩))⟩
    rw [hcl]
    have e3 : nI s + 64 * 0 + 0 = nI s := by
      rw [Int32.mul_zero, Int32.add_zero, Int32.add_zero]
    show post (nI s + 64 * 0 + 0) _
    rw [e3]
    exact h
  | 1, _, h =>
    refine br_f (by decide) ⟨hin, nm_e (br_t (by decide) (br_f (by decide) ⟨pk_in 1 3 (by decide), pk_in 1 3 (by decide), nm_e (br_f (by decide) ?_)⟩))⟩
    rw [hcl]
    have e3 : nI s + 64 * 1 + 0 = nI s + 64 := by
      rw [Int32.mul_one, Int32.add_zero]
    show post (nI s + 64 * 1 + 0) _
    rw [e3]
    exact h
  | k + 2, he, h =>
    have es : nI (k + 2) - 2 = nI k := pk_sub (a := k + 2) (b := 2) (by omega)
    have hn := kl_nb_lt k hs
    have h2 : (2 : Int32) ≤ nI (k + 2) := nI_le (a := 2) (by omega) (by omega)
    have h2' : ¬ nI (k + 2) < 2 := nI_nlt (b := 2) (by omega) (by omega)
    have h0 : ¬ nI (k + 2) = 0 := nI_ne0 (by omega) (by omega)
    refine br_f h0 ⟨hin, nm_e (br_f h2' ?_)⟩
    rw [es, hcl]
    refine kl_ynb hs (by omega) ⟨vp_in_nI hn (by decide), nm_e (br_t h2 ⟨pk_in 2 3 (by decide), pk_in 2 3 (by decide), nm_e (br_t h2 ?_)⟩)⟩
    rw [es, nI_clamp (by omega)]
    have e1 : kl_vS a s (k + 2) = upd (upd a s 0) (kl_nb s k) 1 := by
      unfold kl_vS
      rw [if_neg (by omega), if_neg (by omega), Nat.add_sub_cancel]
    have e2 : kl_vC ev (k + 2) = upd ev 2 (ev 2 + 1) := by
      unfold kl_vC
      rw [if_neg (by omega), if_neg (by omega)]
    have e3 : kl_vR s (k + 2) = nI s + 128 + 256 * nI k := by
      unfold kl_vR
      rw [if_neg (by omega), if_neg (by omega), Nat.add_sub_cancel]
    rw [e1, e2, e3] at h
    exact h
theorem kl_yst19 {a ev : Nat → Int32} {p : Nat → Nat} {i r : Nat} (hi : i < 288) (hp : ∀ j, p j ≤ 1000) (hlo : kl_fS a p i ≤ r) (hhi : r < kl_fS a p (i + 1)) (hr : r < 2 ^ 31)
    {post : Int32 → SY → Prop} (h : post (kl_vR (i / 6) (i % 6)) (fun j => nI (p j), kl_vS a (i / 6) (i % 6), kl_vC ev (i % 6))) : ∀ d j, j + d = i → wY_step_19 post (nI r) (fun j => nI (p j)) a ev (d + 1) (nI (kl_fS a p j)) (nI j) := by
  intro d
  induction d with
  | zero =>
    intro j hj
    obtain rfl : j = i := by omega
    have hb := kl_fS_le (a := a) hp (i := j + 1) (by omega)
    rw [kl_fS_s] at hhi hb
    refine br_f (nI_ge (b := 288) (by omega) (by decide)) ⟨by decide, by decide, ?_⟩
    rw [kl_r6 (by omega), kl_d6 (by omega)]
    refine kl_yeR (by omega) (by omega) (br_f (nI_nlt (by omega) (by omega)) ?_)
    rw [nI_add]
    exact br_f (nI_ge (by omega) (by omega)) ⟨by decide, by decide, kl_yhap (by omega) (by omega) h⟩
  | succ d ih =>
    intro j hj
    have ih' := ih (j + 1) (by omega)
    have hu := kl_fS_up a p (j := j + 1) (k := i) (by omega)
    rw [kl_fS_s] at ih' hu
    refine br_f (nI_ge (b := 288) (by omega) (by decide)) ⟨by decide, by decide, ?_⟩
    rw [kl_r6 (by omega), kl_d6 (by omega)]
    refine kl_yeR (by omega) (by omega) (br_f (nI_nlt (by omega) (by omega)) ?_)
    rw [nI_add]
    exact br_t (nI_le (by omega) (by omega)) (nm_e (nm_r (nI_1 _) ih'))
theorem kl_yst {a ev : Nat → Int32} {p : Nat → Nat} {i r : Nat} (hi : i < 288) (hp : ∀ j, p j ≤ 1000) (hlo : kl_fS a p i ≤ r) (hhi : r < kl_fS a p (i + 1)) (hr : r < kl_sB a p 48)
    {post : Int32 → SY → Prop} (h : post (kl_vR (i / 6) (i % 6)) (fun j => nI (p j), kl_vS a (i / 6) (i % 6), kl_vC ev (i % 6))) : wpY_step post (fun j => nI (p j), a, ev) (nI r) := by
  have hb := kl_sB_le (a := a) hp 48
  refine br_f (nI_pos (by omega)) (kl_yto (br_t (nI_lt hr (by omega)) ⟨i + 1, ?_⟩))
  exact kl_yst19 hi hp hlo hhi (by omega) h i 0 (Nat.zero_add i)
