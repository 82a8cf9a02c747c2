/-! run, clear, occupied, the constructors: both sides at once -/
theorem kl_48 (a : Nat → Int32) (p : Nat → Nat) : kl_fS a p 288 = kl_sB a p 48 := by
  show kl_sB a p 48 + kl_sS a p 48 0 = _
  exact Nat.add_zero _
/-- one step, on both sides: one event -/
theorem kl_one {a co : Nat → Int32} {p : Nat → Nat} (hp : ∀ j, p j ≤ 1000) {r : Nat} (hr : r < kl_sB a p 48) : ∃ (x : Int32) (a' co' : Nat → Int32),
    (∀ post : Int32 → SX → Prop, post x (a', fun j => nI (p j), co') → wpX_pick post (a, fun j => nI (p j), co) (nI r)) ∧
    (∀ post : Int32 → SY → Prop, post x (fun j => nI (p j), a', co') → wpY_step post (fun j => nI (p j), a, co) (nI r)) := by
  have hb := kl_sB_le (a := a) hp 48
  obtain ⟨i, hi, h1, h2⟩ := kl_find a p r 288 (by rw [kl_48]; exact hr)
  exact ⟨kl_vR (i / 6) (i % 6), kl_vS a (i / 6) (i % 6), kl_vC co (i % 6), fun post h => kl_xpick hi hp h1 h2 (by omega) h, fun post h => kl_yst hi hp h1 h2 hr h⟩
theorem kl_rnd (x : Int32) {B : Nat} (h0 : 0 < B) (hB : B < 2 ^ 31) : ∃ r, r < B ∧ (((x.toUInt32 >>> ((8 : Int32).toUInt32 &&& Int32.toUInt32 31)).toInt32) &&& 1048575) - (((x.toUInt32 >>> ((8 : Int32).toUInt32 &&& Int32.toUInt32 31)).toInt32) &&& 1048575) / nI B * nI B = nI r := by
  obtain ⟨j, hj, e⟩ := pk_andE ((x.toUInt32 >>> ((8 : Int32).toUInt32 &&& Int32.toUInt32 31)).toInt32) (m := 1048575) 20 (by decide)
  refine ⟨j % B, Nat.mod_lt _ h0, ?_⟩
  rw [e]
  exact pk_rem (by omega) h0 hB
/-- the reference's idle turns, once the total is 0 -/
theorem kl_idle {a ev : Nat → Int32} {p : Nat → Nat} {v x m : Int32} {e : Nat} (he : e ≤ 200) (hx : ∀ j, j < e → ¬ v ≤ nI j) (hy : v ≤ nI e ∨ e = 200) (h0 : kl_sB a p 48 = 0) {post : Int32 → SY → Prop} (h : post m (fun j => nI (p j), a, ev)) : ∀ d j, j + d = e → wY_run_8 post v (d + 1) x m (nI j) (fun j => nI (p j)) a ev := by
  intro d
  induction d with
  | zero =>
    intro j hj
    obtain rfl : j = e := by omega
    by_cases c : v ≤ nI j
    · exact br_t c h
    · have e200 : j = 200 := by
        cases hy with
        | inl hy => exact absurd hy c
        | inr hy => exact hy
      exact br_f c (br_t (nI_le (a := 200) (by omega) (by omega)) h)
  | succ d ih =>
    intro j hj
    refine br_f (hx j (by omega)) (br_f (nI_ge (b := 200) (by omega) (by decide)) (kl_yto ?_))
    rw [h0]
    exact br_t (by decide) (nm_r (nI_1 _) (ih (j + 1) (by omega)))
theorem kl_run {p : Nat → Nat} (hp : ∀ j, p j ≤ 1000) {v : Int32} {e : Nat} (he : e ≤ 200) (hx : ∀ j, j < e → ¬ v ≤ nI j) (hy : v ≤ nI e ∨ e = 200) : ∀ d j, j + d = e → ∀ (x : Int32) (a co : Nat → Int32), ∃ (r : Int32) (a' co' : Nat → Int32),
    (∀ post : Int32 → SX → Prop, post r (a', fun j => nI (p j), co') → wX_run_14 post (nI e) (d + 1) x (nI j) a (fun j => nI (p j)) co) ∧
    (∀ post : Int32 → SY → Prop, post r (fun j => nI (p j), a', co') → wY_run_8 post v (d + 1) x (nI j) (nI j) (fun j => nI (p j)) a co) := by
  intro d
  induction d with
  | zero =>
    intro j hj x a co
    obtain rfl : j = e := by omega
    refine ⟨nI j, a, co, fun post h => br_t (nI_le (Nat.le_refl j) (by omega)) h, fun post h => ?_⟩
    by_cases c : v ≤ nI j
    · exact br_t c h
    · have e200 : j = 200 := by
        cases hy with
        | inl hy => exact absurd hy c
        | inr hy => exact hy
      exact br_f c (br_t (nI_le (a := 200) (by omega) (by omega)) h)
  | succ d ih =>
    intro j hj x a co
    have hb := kl_sB_le (a := a) hp 48
    by_cases hz : kl_sB a p 48 = 0
    · refine ⟨nI j, a, co, fun post h => br_f (nI_ge (by omega) (by omega)) (kl_xsB48 ?_), fun post h => kl_idle he hx hy hz h (d + 1) j hj⟩
      rw [hz]
      exact br_f (by decide) h
    · obtain ⟨r, hr, er⟩ := kl_rnd (x * 1103515245 + 12345) (B := kl_sB a p 48) (by omega) (by omega)
      obtain ⟨y, a1, c1, hX, hY⟩ := kl_one (co := co) hp hr
      obtain ⟨z, a2, c2, kX, kY⟩ := ih (j + 1) (by omega) (x * 1103515245 + 12345) a1 c1
      refine ⟨z, a2, c2, fun post h => br_f (nI_ge (by omega) (by omega)) (kl_xsB48 (br_t (nI_lt (a := 0) (by omega) (by omega)) (nm_e ⟨nI_ne0 (by omega) (by omega), nm_r er (hX _ (nm_r (nI_1 _) (kX post h)))⟩))), fun post h => ?_⟩
      refine br_f (hx j (by omega)) (br_f (nI_ge (b := 200) (by omega) (by decide)) (kl_yto (br_f (nI_nle (by omega) (by omega)) (nm_e ⟨nI_ne0 (by omega) (by omega), ?_⟩))))
      rw [er]
      exact hY _ (nm_r (nI_1 _) (nm_r (nI_1 _) (kY post h)))
theorem kl_clear {pa co : Nat → Int32} : ∀ d j, j + d = 48 → ∀ a : Nat → Int32, ∃ a' : Nat → Int32,
    (∀ post : SX → Prop, post (a', pa, co) → wX_clear_2 post (d + 1) (nI j) a pa co) ∧
    (∀ post : SY → Prop, post (pa, a', co) → wY_clear_2 post (d + 1) (nI j) pa a co) := by
  intro d
  induction d with
  | zero =>
    intro j hj a
    obtain rfl : j = 48 := by omega
    have h48 : (48 : Int32) ≤ nI 48 := nI_le (a := 48) (b := 48) (by decide) (by decide)
    exact ⟨a, fun post h => br_t h48 h, fun post h => br_t h48 h⟩
  | succ d ih =>
    intro j hj a
    have hc : ¬ (48 : Int32) ≤ nI j := nI_ge (b := 48) (by omega) (by decide)
    have hin : vp_in (nI j) 48 := vp_in_nI (by omega) (by decide)
    obtain ⟨a', hX, hY⟩ := ih (j + 1) (by omega) (upd a (nI j).toNatClampNeg 0)
    exact ⟨a', fun post h => br_f hc ⟨hin, nm_e (nm_r (nI_1 _) (hX post h))⟩, fun post h => br_f hc ⟨hin, nm_e (nm_r (nI_1 _) (hY post h))⟩⟩
theorem kl_occ {a pa co : Nat → Int32} : ∀ d j, j + d = 48 → ∀ x : Int32, ∃ r : Int32,
    (∀ post : Int32 → Prop, post r → wX_occupied_4 post a pa co (d + 1) x (nI j)) ∧
    (∀ post : Int32 → Prop, post r → wY_occupied_4 post pa a co (d + 1) x (nI j)) := by
  intro d
  induction d with
  | zero =>
    intro j hj x
    obtain rfl : j = 48 := by omega
    have h48 : (48 : Int32) ≤ nI 48 := nI_le (a := 48) (b := 48) (by decide) (by decide)
    exact ⟨x, fun post h => br_t h48 h, fun post h => br_t h48 h⟩
  | succ d ih =>
    intro j hj x
    have hc : ¬ (48 : Int32) ≤ nI j := nI_ge (b := 48) (by omega) (by decide)
    have hin : vp_in (nI j) 48 := vp_in_nI (by omega) (by decide)
    by_cases c : a (nI j).toNatClampNeg = 1
    · obtain ⟨r, hX, hY⟩ := ih (j + 1) (by omega) (x + 1)
      exact ⟨r, fun post h => br_f hc ⟨hin, br_t c (nm_e (nm_r (nI_1 _) (hX post h)))⟩, fun post h => br_f hc ⟨hin, br_t c (nm_e (nm_r (nI_1 _) (hY post h)))⟩⟩
    · obtain ⟨r, hX, hY⟩ := ih (j + 1) (by omega) x
      exact ⟨r, fun post h => br_f hc ⟨hin, br_f c (nm_r (nI_1 _) (hX post h))⟩, fun post h => br_f hc ⟨hin, br_f c (nm_r (nI_1 _) (hY post h))⟩⟩
theorem kl_upd {p : Nat → Nat} {k m : Nat} (hp : ∀ j, p j ≤ 1000) (hm : m ≤ 1000) : ∃ q : Nat → Nat, (∀ j, q j ≤ 1000) ∧ upd (fun j => nI (p j)) k (nI m) = fun j => nI (q j) := by
  refine ⟨fun j => if j = k then m else p j, fun j => ?_, ?_⟩
  · show (if j = k then m else p j) ≤ 1000
    split
    · exact hm
    · exact hp j
  · funext j
    show (if j = k then nI m else nI (p j)) = nI (if j = k then m else p j)
    split <;> rfl
theorem kl_init {a co : Nat → Int32} : ∀ d j, j + d = 7 → ∀ p : Nat → Nat, (∀ j, p j ≤ 1000) → ∃ q : Nat → Nat, (∀ j, q j ≤ 1000) ∧
    (∀ post : SX → Prop, post (a, fun j => nI (q j), co) → wX_init_29 post (d + 1) (nI j) a (fun j => nI (p j)) co) ∧
    (∀ post : SY → Prop, post (fun j => nI (q j), a, co) → wY_init_29 post (d + 1) (nI j) (fun j => nI (p j)) a co) := by
  intro d
  induction d with
  | zero =>
    intro j hj p hp
    obtain rfl : j = 7 := by omega
    have h7 : (7 : Int32) ≤ nI 7 := nI_le (a := 7) (b := 7) (by decide) (by decide)
    exact ⟨p, hp, fun post h => br_t h7 h, fun post h => br_t h7 h⟩
  | succ d ih =>
    intro j hj p hp
    have hc : ¬ (7 : Int32) ≤ nI j := nI_ge (b := 7) (by omega) (by decide)
    have hin : vp_in (nI j) 7 := vp_in_nI (by omega) (by decide)
    obtain ⟨p1, hp1, e⟩ := kl_upd (p := p) (k := (nI j).toNatClampNeg) (m := 1) hp (by decide)
    obtain ⟨q, hq, hX, hY⟩ := ih (j + 1) (by omega) p1 hp1
    exact ⟨q, hq, fun post h => br_f hc ⟨hin, nm_r e (nm_r (nI_1 _) (hX post h))⟩, fun post h => br_f hc ⟨hin, nm_r e (nm_r (nI_1 _) (hY post h))⟩⟩
