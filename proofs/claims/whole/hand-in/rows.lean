section
theorem pk_us {f : Nat → Int32} {k : Nat} {x : Int32} : upd f k x k = x := if_pos rfl
theorem pk_un {f : Nat → Int32} {k j : Nat} {x : Int32} (h : j ≠ k) : upd f k x j = f j := if_neg h
theorem pk_sub {a b : Nat} (h : b ≤ a) : nI a - nI b = nI (a - b) := by
  obtain ⟨c, rfl⟩ : ∃ c, a = c + b := ⟨a - b, by omega⟩
  rw [← nI_add, Int32.add_sub_cancel, Nat.add_sub_cancel]
theorem pk_mul (a b : Nat) : nI a * nI b = nI (a * b) := (Int32.ofNat_mul a b).symm
theorem pk_div {a d : Nat} (ha : a < 2 ^ 31) (h0 : 0 < d) (hd : d < 2 ^ 31) : nI a / nI d = nI (a / d) := by
  apply Int32.toInt_inj.mp
  rw [lg_idiv_nonneg (by rw [nI_toInt ha]; omega) (by rw [nI_toInt hd]; omega), nI_toInt ha, nI_toInt hd, nI_toInt (Nat.lt_of_le_of_lt (Nat.div_le_self a d) ha)]
  first | rfl | exact (Int.natCast_ediv _ _).symm
theorem pk_rem {a d : Nat} (ha : a < 2 ^ 31) (h0 : 0 < d) (hd : d < 2 ^ 31) : nI a - nI a / nI d * nI d = nI (a % d) := by
  rw [pk_div ha h0 hd, pk_mul, pk_sub (Nat.div_mul_le_self a d)]
  exact congrArg nI (by have := Nat.div_add_mod' a d; omega)
theorem pk_ix (x : Int32) {n : Nat} (hn : n < 2 ^ 31) : x < 0 ∨ nI n ≤ x ∨ ∃ j : Nat, j < n ∧ x = nI j := by
  by_cases h : x < 0
  · exact Or.inl h
  · obtain ⟨j, hj, rfl⟩ := nI_of h
    by_cases h2 : j < n
    · exact Or.inr (Or.inr ⟨j, h2, rfl⟩)
    · exact Or.inr (Or.inl (nI_le (by omega) hj))
theorem pk_le {x y : Int32} {A B : Prop} (a b : Nat) (f : a ≤ b → A) (g : b < a → B) (hx : x = nI a := by rfl) (hy : y = nI b := by rfl) (ha : a < 2 ^ 31 := by omega) (hb : b < 2 ^ 31 := by omega) : (x ≤ y → A) ∧ (¬ x ≤ y → B) := by
  subst hx hy
  rw [nI_leI ha hb]
  exact ⟨f, fun z => g (by omega)⟩
theorem pk_lt {x y : Int32} {A B : Prop} (a b : Nat) (f : a < b → A) (g : b ≤ a → B) (hx : x = nI a := by rfl) (hy : y = nI b := by rfl) (ha : a < 2 ^ 31 := by omega) (hb : b < 2 ^ 31 := by omega) : (x < y → A) ∧ (¬ x < y → B) := by
  subst hx hy
  rw [nI_ltI ha hb]
  exact ⟨f, fun z => g (by omega)⟩
theorem pk_eq {x y : Int32} {A B : Prop} (a b : Nat) (f : a = b → A) (g : a ≠ b → B) (hx : x = nI a := by rfl) (hy : y = nI b := by rfl) (ha : a < 2 ^ 31 := by omega) (hb : b < 2 ^ 31 := by omega) : (x = y → A) ∧ (¬ x = y → B) := by
  subst hx hy
  rw [nI_eq ha hb]
  exact ⟨f, g⟩
theorem pk_in {x : Int32} (n N : Nat) (h : n < N) (hx : x = nI n := by rfl) (hN : N < 2 ^ 31 := by omega) : vp_in x N := by
  subst hx
  exact vp_in_nI h hN
theorem pk_cl {x : Int32} (n : Nat) (hx : x = nI n := by rfl) (h : n < 2 ^ 31 := by omega) : x.toNatClampNeg = n := by
  subst hx
  exact nI_clamp h
theorem pk_tn {n : Nat} (h : n < 2 ^ 32) : (nI n).toBitVec.toNat = n := Nat.mod_eq_of_lt h
theorem pk_and (x : Int32) {m : Int32} (k : Nat) (hm : m.toBitVec.toNat = 2 ^ k - 1) : x &&& m = nI (x.toBitVec.toNat % 2 ^ k) := by
  apply Int32.toBitVec_inj.mp
  apply BitVec.eq_of_toNat_eq
  rw [Int32.toBitVec_and, BitVec.toNat_and, hm, Nat.and_two_pow_sub_one_eq_mod]
  show _ = (BitVec.ofNat 32 _).toNat
  rw [BitVec.toNat_ofNat]
  exact (Nat.mod_eq_of_lt (Nat.lt_of_le_of_lt (Nat.mod_le _ _) x.toBitVec.isLt)).symm
theorem pk_andE (x : Int32) {m : Int32} (k : Nat) (hm : m.toBitVec.toNat = 2 ^ k - 1) : ∃ j : Nat, j < 2 ^ k ∧ x &&& m = nI j := ⟨_, Nat.mod_lt _ (Nat.two_pow_pos k), pk_and x k hm⟩
end
section
/-! the lattice's arithmetic in naturals: neighbours, counts, rates, sums -/
def kl_nb (s k : Nat) : Nat :=
  if k = 0 then s / 6 * 6 + (s % 6 + 1) % 6
  else if k = 1 then s / 6 * 6 + (s % 6 + 5) % 6
  else if k = 2 then (s / 6 + 1) % 8 * 6 + s % 6
  else (s / 6 + 7) % 8 * 6 + s % 6
theorem kl_nb_lt {s : Nat} (k : Nat) (h : s < 48) : kl_nb s k < 48 := by
  unfold kl_nb
  split
  · omega
  · split
    · omega
    · split <;> omega
def kl_cn (a : Nat → Int32) (c : Int32) (s : Nat) : Nat → Nat
  | 0 => 0
  | j + 1 => kl_cn a c s j + (if a (kl_nb s j) = c then 1 else 0)
theorem kl_cn_le (a : Nat → Int32) (c : Int32) (s : Nat) : ∀ j, kl_cn a c s j ≤ j := by
  intro j
  induction j with
  | zero => exact Nat.le_refl 0
  | succ j ih =>
    show kl_cn a c s j + (if a (kl_nb s j) = c then 1 else 0) ≤ j + 1
    split <;> omega
theorem kl_cn_up (a : Nat → Int32) (c : Int32) (s : Nat) {j k : Nat} (h : j ≤ k) : kl_cn a c s j ≤ kl_cn a c s k := by
  induction k with
  | zero => rw [Nat.le_zero.mp h]; exact Nat.le_refl _
  | succ k ih =>
    by_cases e : j = k + 1
    · rw [e]; exact Nat.le_refl _
    · have := ih (by omega)
      show kl_cn a c s j ≤ kl_cn a c s k + (if a (kl_nb s k) = c then 1 else 0)
      omega
theorem kl_cn_t {a : Nat → Int32} {c : Int32} {s j : Nat} (h : a (kl_nb s j) = c) : kl_cn a c s (j + 1) = kl_cn a c s j + 1 := by
  show kl_cn a c s j + (if a (kl_nb s j) = c then 1 else 0) = _
  rw [if_pos h]
theorem kl_cn_f {a : Nat → Int32} {c : Int32} {s j : Nat} (h : ¬ a (kl_nb s j) = c) : kl_cn a c s (j + 1) = kl_cn a c s j := by
  show kl_cn a c s j + (if a (kl_nb s j) = c then 1 else 0) = _
  rw [if_neg h, Nat.add_zero]
/-- a site's own rate, as the component reckons it -/
def kl_sA (a : Nat → Int32) (p : Nat → Nat) (s : Nat) : Nat :=
  if a s = 2 then 0 else if a s = 0 then p 5 else p (kl_cn a 1 s 4) + kl_cn a 0 s 4 * p 6
/-- the rate of the event e of site s, as the reference reckons it -/
def kl_eR (a : Nat → Int32) (p : Nat → Nat) (s e : Nat) : Nat :=
  if a s = 0 then (if e = 0 then p 5 else 0)
  else if a s = 2 then 0
  else if e = 0 then 0
  else if e = 1 then p (kl_cn a 1 s 4)
  else if a (kl_nb s (e - 2)) = 0 then p 6 else 0
def kl_sS (a : Nat → Int32) (p : Nat → Nat) (s : Nat) : Nat → Nat
  | 0 => 0
  | e + 1 => kl_sS a p s e + kl_eR a p s e
def kl_sB (a : Nat → Int32) (p : Nat → Nat) : Nat → Nat
  | 0 => 0
  | n + 1 => kl_sB a p n + kl_sA a p n
theorem kl_sS_e {a : Nat → Int32} {p : Nat → Nat} {s : Nat} (h : a s = 0) (j : Nat) : kl_sS a p s (j + 1) = p 5 := by
  induction j with
  | zero =>
    show 0 + kl_eR a p s 0 = p 5
    rw [kl_eR, if_pos h, if_pos rfl, Nat.zero_add]
  | succ j ih =>
    show kl_sS a p s (j + 1) + kl_eR a p s (j + 1) = p 5
    rw [ih, kl_eR, if_pos h, if_neg (Nat.succ_ne_zero j), Nat.add_zero]
theorem kl_sS_b {a : Nat → Int32} {p : Nat → Nat} {s : Nat} (h : a s = 2) (j : Nat) : kl_sS a p s j = 0 := by
  have h0 : ¬ a s = 0 := by rw [h]; decide
  induction j with
  | zero => rfl
  | succ j ih =>
    show kl_sS a p s j + kl_eR a p s j = 0
    rw [ih, kl_eR, if_neg h0, if_pos h]
theorem kl_sS_1 {a : Nat → Int32} {p : Nat → Nat} {s : Nat} (h0 : ¬ a s = 0) : kl_sS a p s 1 = 0 := by
  show 0 + kl_eR a p s 0 = 0
  rw [kl_eR, if_neg h0, if_pos rfl, Nat.zero_add]
  split <;> rfl
theorem kl_sS_o {a : Nat → Int32} {p : Nat → Nat} {s : Nat} (h0 : ¬ a s = 0) (h2 : ¬ a s = 2) (j : Nat) : kl_sS a p s (j + 2) = p (kl_cn a 1 s 4) + kl_cn a 0 s j * p 6 := by
  induction j with
  | zero =>
    show kl_sS a p s 1 + kl_eR a p s 1 = p (kl_cn a 1 s 4) + 0 * p 6
    rw [kl_sS_1 h0, kl_eR, if_neg h0, if_neg h2, if_neg (by decide), if_pos rfl, Nat.zero_add, Nat.zero_mul, Nat.add_zero]
  | succ j ih =>
    show kl_sS a p s (j + 2) + kl_eR a p s (j + 2) = _
    rw [ih, kl_eR, if_neg h0, if_neg h2, if_neg (by omega), if_neg (by omega), Nat.add_sub_cancel]
    by_cases h : a (kl_nb s j) = 0
    · rw [if_pos h, kl_cn_t h, Nat.add_mul, Nat.one_mul, Nat.add_assoc]
    · rw [if_neg h, kl_cn_f h, Nat.add_zero]
theorem kl_sS_6 (a : Nat → Int32) (p : Nat → Nat) (s : Nat) : kl_sS a p s 6 = kl_sA a p s := by
  unfold kl_sA
  by_cases h2 : a s = 2
  · rw [if_pos h2, kl_sS_b h2]
  · by_cases h0 : a s = 0
    · rw [if_neg h2, if_pos h0, kl_sS_e h0 5]
    · rw [if_neg h2, if_neg h0, kl_sS_o h0 h2 4]
theorem kl_sS_up (a : Nat → Int32) (p : Nat → Nat) (s : Nat) {j k : Nat} (h : j ≤ k) : kl_sS a p s j ≤ kl_sS a p s k := by
  induction k with
  | zero => rw [Nat.le_zero.mp h]; exact Nat.le_refl _
  | succ k ih =>
    by_cases e : j = k + 1
    · rw [e]; exact Nat.le_refl _
    · have := ih (by omega)
      show kl_sS a p s j ≤ kl_sS a p s k + kl_eR a p s k
      omega
theorem kl_sB_up (a : Nat → Int32) (p : Nat → Nat) {j k : Nat} (h : j ≤ k) : kl_sB a p j ≤ kl_sB a p k := by
  induction k with
  | zero => rw [Nat.le_zero.mp h]; exact Nat.le_refl _
  | succ k ih =>
    by_cases e : j = k + 1
    · rw [e]; exact Nat.le_refl _
    · have := ih (by omega)
      show kl_sB a p j ≤ kl_sB a p k + kl_sA a p k
      omega
theorem kl_sA_le {a : Nat → Int32} {p : Nat → Nat} (hp : ∀ j, p j ≤ 1000) (s : Nat) : kl_sA a p s ≤ 5000 := by
  unfold kl_sA
  have h5 := hp 5
  have hn := hp (kl_cn a 1 s 4)
  have hm : kl_cn a 0 s 4 * p 6 ≤ 4 * 1000 := Nat.mul_le_mul (kl_cn_le a 0 s 4) (hp 6)
  split
  · omega
  · split <;> omega
theorem kl_sB_le {a : Nat → Int32} {p : Nat → Nat} (hp : ∀ j, p j ≤ 1000) (n : Nat) : kl_sB a p n ≤ 5000 * n := by
  induction n with
  | zero => exact Nat.le_refl 0
  | succ n ih =>
    have := kl_sA_le (a := a) hp n
    show kl_sB a p n + kl_sA a p n ≤ _
    omega
theorem kl_sS_le {a : Nat → Int32} {p : Nat → Nat} (hp : ∀ j, p j ≤ 1000) (s : Nat) {e : Nat} (he : e ≤ 6) : kl_sS a p s e ≤ 5000 := by
  have h1 := kl_sS_up a p s he
  have h2 := kl_sA_le (a := a) hp s
  rw [kl_sS_6] at h1
  omega
/-- the sum of the rates of the first i events -/
def kl_fS (a : Nat → Int32) (p : Nat → Nat) (i : Nat) : Nat := kl_sB a p (i / 6) + kl_sS a p (i / 6) (i % 6)
theorem kl_fS_s (a : Nat → Int32) (p : Nat → Nat) (i : Nat) : kl_fS a p (i + 1) = kl_fS a p i + kl_eR a p (i / 6) (i % 6) := by
  unfold kl_fS
  by_cases h : i % 6 = 5
  · have e1 : (i + 1) / 6 = i / 6 + 1 := by omega
    have e2 : (i + 1) % 6 = 0 := by omega
    rw [e1, e2, h]
    have e3 : kl_sS a p (i / 6) 6 = kl_sS a p (i / 6) 5 + kl_eR a p (i / 6) 5 := rfl
    show kl_sB a p (i / 6) + kl_sA a p (i / 6) + 0 = _
    rw [← kl_sS_6, e3]
    omega
  · have e1 : (i + 1) / 6 = i / 6 := by omega
    have e2 : (i + 1) % 6 = i % 6 + 1 := by omega
    rw [e1, e2]
    show kl_sB a p (i / 6) + (kl_sS a p (i / 6) (i % 6) + kl_eR a p (i / 6) (i % 6)) = _
    omega
theorem kl_fS_up (a : Nat → Int32) (p : Nat → Nat) {j k : Nat} (h : j ≤ k) : kl_fS a p j ≤ kl_fS a p k := by
  induction k with
  | zero => rw [Nat.le_zero.mp h]; exact Nat.le_refl _
  | succ k ih =>
    by_cases e : j = k + 1
    · rw [e]; exact Nat.le_refl _
    · have := ih (by omega)
      rw [kl_fS_s]
      omega
theorem kl_fS_le {a : Nat → Int32} {p : Nat → Nat} (hp : ∀ j, p j ≤ 1000) {i : Nat} (hi : i ≤ 288) : kl_fS a p i ≤ 300000 := by
  unfold kl_fS
  have h1 := kl_sB_le (a := a) hp (i / 6)
  have h2 := kl_sS_le (a := a) hp (i / 6) (e := i % 6) (by omega)
  omega
theorem kl_find (a : Nat → Int32) (p : Nat → Nat) (r : Nat) (i : Nat) (h : r < kl_fS a p i) : ∃ j, j < i ∧ kl_fS a p j ≤ r ∧ r < kl_fS a p (j + 1) := by
  induction i with
  | zero => exact absurd h (Nat.not_lt_zero r)
  | succ i ih =>
    by_cases c : kl_fS a p i ≤ r
    · exact ⟨i, by omega, c, h⟩
    · obtain ⟨j, hj, h1, h2⟩ := ih (by omega)
      exact ⟨j, by omega, h1, h2⟩
/-- an event: what it makes of the sites, of the counts, and its answer -/
def kl_vS (a : Nat → Int32) (s e : Nat) : Nat → Int32 :=
  if e = 0 then upd a s 1 else if e = 1 then upd a s 0 else upd (upd a s 0) (kl_nb s (e - 2)) 1
def kl_vC (c : Nat → Int32) (e : Nat) : Nat → Int32 :=
  if e = 0 then upd c 0 (c 0 + 1) else if e = 1 then upd c 1 (c 1 + 1) else upd c 2 (c 2 + 1)
def kl_vR (s e : Nat) : Int32 :=
  if e = 0 then nI s else if e = 1 then nI s + 64 else nI s + 128 + 256 * nI (e - 2)
end
section
/-! the component's private methods, each with a general post -/
theorem kl_d6 {j : Nat} (h : j < 2 ^ 31) : nI j / 6 = nI (j / 6) := pk_div (d := 6) h (by decide) (by decide)
theorem kl_r6 {j : Nat} (h : j < 2 ^ 31) : nI j - nI j / 6 * 6 = nI (j % 6) := pk_rem (d := 6) h (by decide) (by decide)
def kl_xf (x y : Int32) : Int32 :=
  if y = 0 then x / 6 * 6 + ((x - x / 6 * 6 + 1) - (x - x / 6 * 6 + 1) / 6 * 6)
  else if y = 1 then x / 6 * 6 + ((x - x / 6 * 6 + 6 - 1) - (x - x / 6 * 6 + 6 - 1) / 6 * 6)
  else if y = 2 then ((x / 6 + 1) - (x / 6 + 1) / 8 * 8) * 6 + (x - x / 6 * 6)
  else ((x / 6 + 8 - 1) - (x / 6 + 8 - 1) / 8 * 8) * 6 + (x - x / 6 * 6)
theorem kl_xf_tab : ∀ s, s < 48 → ∀ k, k < 4 → kl_xf (nI s) (nI k) = nI (kl_nb s k) := by decide +kernel
theorem kl_xfw {x y : Int32} {post : Int32 → Prop} (h : post (kl_xf x y)) : wpX_neighbour post x y := by
  unfold kl_xf at h
  refine ⟨by decide, nm_e ⟨by decide, nm_e ?_⟩⟩
  by_cases c0 : y = 0
  · rw [if_pos c0] at h
    exact br_t c0 ⟨by decide, nm_e h⟩
  · rw [if_neg c0] at h
    refine br_f c0 ?_
    by_cases c1 : y = 1
    · rw [if_pos c1] at h
      exact br_t c1 ⟨by decide, nm_e h⟩
    · rw [if_neg c1] at h
      refine br_f c1 ?_
      by_cases c2 : y = 2
      · rw [if_pos c2] at h
        exact br_t c2 ⟨by decide, nm_e h⟩
      · rw [if_neg c2] at h
        exact br_f c2 ⟨by decide, nm_e h⟩
theorem kl_xnb {s k : Nat} (hs : s < 48) (hk : k < 4) {post : Int32 → Prop} (h : post (nI (kl_nb s k))) : wpX_neighbour post (nI s) (nI k) := by
  rw [← kl_xf_tab s hs k hk] at h
  exact kl_xfw h
theorem kl_xni5 {a pa co : Nat → Int32} {c : Int32} {s : Nat} (hs : s < 48) {post : Int32 → Prop} (h : post (nI (kl_cn a c s 4))) : ∀ d j, j + d = 4 → wX_neighboursIn_5 post (nI s) c a pa co (d + 1) (nI (kl_cn a c s j)) (nI j) := by
  intro d
  induction d with
  | zero =>
    intro j hj
    obtain rfl : j = 4 := by omega
    exact br_t (nI_le (a := 4) (b := 4) (by decide) (by decide)) h
  | succ d ih =>
    intro j hj
    have hn := kl_nb_lt j hs
    have ih' := ih (j + 1) (by omega)
    refine br_f (nI_ge (b := 4) (by omega) (by decide)) (kl_xnb hs (by omega) ⟨vp_in_nI hn (by decide), ?_⟩)
    rw [nI_clamp (by omega)]
    by_cases hc : a (kl_nb s j) = c
    · rw [kl_cn_t hc] at ih'
      exact br_t hc (nm_r (nI_1 _) (nm_r (nI_1 _) ih'))
    · rw [kl_cn_f hc] at ih'
      exact br_f hc (nm_r (nI_1 _) ih')
theorem kl_xni {a pa co : Nat → Int32} (c : Int32) {s : Nat} (hs : s < 48) {post : Int32 → Prop} (h : post (nI (kl_cn a c s 4))) : wpX_neighboursIn post (a, pa, co) (nI s) c :=
  ⟨5, kl_xni5 hs h 4 0 rfl⟩
theorem kl_xsA {a co : Nat → Int32} {p : Nat → Nat} {s : Nat} (hs : s < 48) {post : Int32 → Prop} (h : post (nI (kl_sA a p s))) : wpX_sumAt post (a, fun j => nI (p j), co) (nI s) := by
  have hin : vp_in (nI s) 48 := vp_in_nI hs (by decide)
  refine ⟨hin, ?_⟩
  rw [nI_clamp (by omega)]
  unfold kl_sA at h
  by_cases h2 : a s = 2
  · rw [if_pos h2] at h
    exact br_t h2 h
  · rw [if_neg h2] at h
    refine br_f h2 ⟨hin, ?_⟩
    by_cases h0 : a s = 0
    · rw [if_pos h0] at h
      exact br_t h0 h
    · rw [if_neg h0] at h
      have hn := kl_cn_le a 1 s 4
      refine br_f h0 (kl_xni 1 hs (kl_xni 0 hs ⟨vp_in_nI (by omega) (by decide), ?_⟩))
      rw [nI_clamp (by omega)]
      show post (nI (p (kl_cn a 1 s 4)) + nI (kl_cn a 0 s 4) * nI (p 6))
      rw [pk_mul, nI_add]
      exact h
theorem kl_xsB4 {a co : Nat → Int32} {p : Nat → Nat} {e : Nat} (he : e ≤ 48) {post : Int32 → Prop} (h : post (nI (kl_sB a p e))) : ∀ d j, j + d = e → wX_sumBelow_4 post (nI e) a (fun j => nI (p j)) co (d + 1) (nI (kl_sB a p j)) (nI j) := by
  intro d
  induction d with
  | zero =>
    intro j hj
    obtain rfl : j = e := by omega
    exact br_t (nI_le (Nat.le_refl j) (by omega)) h
  | succ d ih =>
    intro j hj
    exact br_f (nI_ge (by omega) (by omega)) (kl_xsA (by omega) (nm_r (nI_add _ _) (nm_r (nI_1 _) (ih (j + 1) (by omega)))))
theorem kl_xsB {a co : Nat → Int32} {p : Nat → Nat} {e : Nat} (he : e ≤ 48) {post : Int32 → Prop} (h : post (nI (kl_sB a p e))) : wpX_sumBelow post (a, fun j => nI (p j), co) (nI e) :=
  ⟨e + 1, kl_xsB4 he h e 0 (Nat.zero_add e)⟩
theorem kl_xsB48 {a co : Nat → Int32} {p : Nat → Nat} {post : Int32 → Prop} (h : post (nI (kl_sB a p 48))) : wpX_sumBelow post (a, fun j => nI (p j), co) 48 :=
  kl_xsB (e := 48) (Nat.le_refl 48) h
theorem kl_xhop5 {a co : Nat → Int32} {p : Nat → Nat} {s k q : Nat} (hs : s < 48) (hk : k < 4) (hp : p 6 ≤ 1000) (h0 : a (kl_nb s k) = 0) (hlo : kl_cn a 0 s k * p 6 ≤ q) (hhi : q < kl_cn a 0 s k * p 6 + p 6) (hq : q < 2 ^ 31)
    {post : Int32 → SX → Prop} (h : post (kl_vR s (k + 2)) (kl_vS a s (k + 2), fun j => nI (p j), kl_vC co (k + 2))) : ∀ d j, j + d = k → wX_hopFrom_5 post (nI s) a (fun j => nI (p j)) co (d + 1) (nI (q - kl_cn a 0 s j * p 6)) (nI j) := by
  intro d
  induction d with
  | zero =>
    intro j hj
    obtain rfl : j = k := by omega
    have hn := kl_nb_lt j hs
    refine br_f (nI_ge (b := 4) (by omega) (by decide)) (kl_xnb hs (by omega) ⟨vp_in_nI hn (by decide), ?_⟩)
    rw [nI_clamp (by omega)]
    refine br_t h0 (br_f (nI_ge (b := p 6) (by omega) (by omega)) ⟨vp_in_nI hs (by decide), nm_e ⟨vp_in_nI hn (by decide), nm_e ⟨pk_in 2 3 (by decide), pk_in 2 3 (by decide), nm_e ?_⟩⟩⟩)
    rw [nI_clamp (by omega)]
    have e1 : kl_vS a s (j + 2) = upd (upd a s 0) (kl_nb s j) 1 := by
      unfold kl_vS
      rw [if_neg (by omega), if_neg (by omega), Nat.add_sub_cancel]
    have e2 : kl_vC co (j + 2) = upd co 2 (co 2 + 1) := by
      unfold kl_vC
      rw [if_neg (by omega), if_neg (by omega)]
    have e3 : kl_vR s (j + 2) = nI s + 128 + 256 * nI j := by
      unfold kl_vR
      rw [if_neg (by omega), if_neg (by omega), Nat.add_sub_cancel]
    rw [e1, e2, e3] at h
    exact h
  | succ d ih =>
    intro j hj
    have hn := kl_nb_lt j hs
    have ih' := ih (j + 1) (by omega)
    refine br_f (nI_ge (b := 4) (by omega) (by decide)) (kl_xnb hs (by omega) ⟨vp_in_nI hn (by decide), ?_⟩)
    rw [nI_clamp (by omega)]
    by_cases hc : a (kl_nb s j) = 0
    · have hm : kl_cn a 0 s (j + 1) * p 6 ≤ kl_cn a 0 s k * p 6 := Nat.mul_le_mul_right _ (kl_cn_up a 0 s (by omega))
      rw [kl_cn_t hc] at ih' hm
      rw [Nat.add_mul, Nat.one_mul] at ih' hm
      refine br_t hc (br_t (nI_le (by omega) (by omega)) (nm_r (pk_sub (by omega)) (nm_r (nI_1 _) ?_)))
      rw [Nat.sub_sub]
      exact ih'
    · rw [kl_cn_f hc] at ih'
      exact br_f hc (nm_r (nI_1 _) ih')
theorem kl_xhap {a co : Nat → Int32} {p : Nat → Nat} {s e q : Nat} (hs : s < 48) (he : e < 6) (hp : ∀ j, p j ≤ 1000) (hlo : kl_sS a p s e ≤ q) (hhi : q < kl_sS a p s (e + 1)) (hq : q < 2 ^ 31)
    {post : Int32 → SX → Prop} (h : post (kl_vR s e) (kl_vS a s e, fun j => nI (p j), kl_vC co e)) : wpX_happenAt post (a, fun j => nI (p j), co) (nI s) (nI q) := by
  have hin : vp_in (nI s) 48 := vp_in_nI hs (by decide)
  refine ⟨hin, ?_⟩
  rw [nI_clamp (by omega)]
  by_cases h0 : a s = 0
  · have e0 : e = 0 := by
      cases e with
      | zero => rfl
      | succ e =>
        rw [kl_sS_e h0] at hlo hhi
        omega
    subst e0
    refine br_t h0 ⟨hin, nm_e ⟨pk_in 0 3 (by decide), pk_in 0 3 (by decide), nm_e ?_⟩⟩
    have e3 : nI s + 64 * 0 + 256 * 0 = nI s := by
      rw [Int32.mul_zero, Int32.mul_zero, Int32.add_zero, Int32.add_zero]
    show post (nI s + 64 * 0 + 256 * 0) _
    rw [e3]
    exact h
  · have h2 : ¬ a s = 2 := by
      intro h2
      rw [kl_sS_b h2] at hhi
      omega
    have hn := kl_cn_le a 1 s 4
    have hpn := hp (kl_cn a 1 s 4)
    have hni : vp_in (nI (kl_cn a 1 s 4)) 7 := vp_in_nI (by omega) (by decide)
    refine br_f h0 (kl_xni 1 hs ⟨hni, ?_⟩)
    rw [nI_clamp (by omega)]
    match e, he, hlo, hhi, h with
    | 0, _, hlo, hhi, h =>
      rw [kl_sS_1 h0] at hhi
      omega
    | 1, _, hlo, hhi, h =>
      rw [kl_sS_o h0 h2 0] at hhi
      have hc : kl_cn a 0 s 0 * p 6 = 0 := Nat.zero_mul _
      rw [hc, Nat.add_zero] at hhi
      refine br_f (nI_ge hhi (by omega)) ⟨hin, nm_e ⟨pk_in 1 3 (by decide), pk_in 1 3 (by decide), nm_e ?_⟩⟩
      have e3 : nI s + 64 * 1 + 256 * 0 = nI s + 64 := by
        rw [Int32.mul_zero, Int32.mul_one, Int32.add_zero]
      show post (nI s + 64 * 1 + 256 * 0) _
      rw [e3]
      exact h
    | k + 2, he, hlo, hhi, h =>
      rw [kl_sS_o h0 h2] at hlo
      have hhi' : q < p (kl_cn a 1 s 4) + kl_cn a 0 s (k + 1) * p 6 := by
        rw [← kl_sS_o h0 h2]
        exact hhi
      have hz : a (kl_nb s k) = 0 := by
        by_cases hz : a (kl_nb s k) = 0
        · exact hz
        · rw [kl_cn_f hz] at hhi'
          omega
      rw [kl_cn_t hz, Nat.add_mul, Nat.one_mul] at hhi'
      refine br_t (nI_le (by omega) (by omega)) ⟨hni, ?_⟩
      show wpX_hopFrom _ (a, fun j => nI (p j), co) (nI s) (nI q - nI (p (kl_cn a 1 s 4)))
      rw [pk_sub (by omega)]
      refine ⟨k + 1, ?_⟩
      have hw := kl_xhop5 (co := co) (q := q - p (kl_cn a 1 s 4)) hs (by omega) (hp 6) hz (by omega) (by omega) (by omega) h k 0 (Nat.zero_add k)
      have hc : kl_cn a 0 s 0 * p 6 = 0 := Nat.zero_mul _
      rw [hc, Nat.sub_zero] at hw
      exact hw
theorem kl_xpick4 {a co : Nat → Int32} {p : Nat → Nat} {s e r : Nat} (hs : s < 48) (he : e < 6) (hp : ∀ j, p j ≤ 1000) (hlo : kl_sB a p s + kl_sS a p s e ≤ r) (hhi : r < kl_sB a p s + kl_sS a p s (e + 1)) (hr : r < 2 ^ 31)
    {post : Int32 → SX → Prop} (h : post (kl_vR s e) (kl_vS a s e, fun j => nI (p j), kl_vC co e)) : ∀ d j, j + d = s → wX_pick_4 post a (fun j => nI (p j)) co (d + 1) (nI (r - kl_sB a p j)) (nI j) := by
  intro d
  induction d with
  | zero =>
    intro j hj
    obtain rfl : j = s := by omega
    have h6 := kl_sS_up a p j (j := e + 1) (k := 6) (by omega)
    rw [kl_sS_6] at h6
    have hA := kl_sA_le (a := a) hp j
    refine br_f (nI_ge (b := 48) (by omega) (by decide)) (kl_xsA hs (br_f (nI_ge (by omega) (by omega)) ?_))
    exact kl_xhap hs he hp (by omega) (by omega) (by omega) h
  | succ d ih =>
    intro j hj
    have ih' := ih (j + 1) (by omega)
    have hu : kl_sB a p j + kl_sA a p j ≤ kl_sB a p s := kl_sB_up a p (j := j + 1) (by omega)
    refine br_f (nI_ge (b := 48) (by omega) (by decide)) (kl_xsA (by omega) (br_t (nI_le (by omega) (by omega)) (nm_r (pk_sub (by omega)) (nm_r (nI_1 _) ?_))))
    rw [Nat.sub_sub]
    exact ih'
theorem kl_xpick {a co : Nat → Int32} {p : Nat → Nat} {i r : Nat} (hi : i < 288) (hp : ∀ j, p j ≤ 1000) (hlo : kl_fS a p i ≤ r) (hhi : r < kl_fS a p (i + 1)) (hr : r < 2 ^ 31)
    {post : Int32 → SX → Prop} (h : post (kl_vR (i / 6) (i % 6)) (kl_vS a (i / 6) (i % 6), fun j => nI (p j), kl_vC co (i % 6))) : wpX_pick post (a, fun j => nI (p j), co) (nI r) := by
  rw [kl_fS_s] at hhi
  unfold kl_fS at hlo hhi
  refine ⟨i / 6 + 1, ?_⟩
  have hw := kl_xpick4 (co := co) (s := i / 6) (e := i % 6) (by omega) (by omega) hp hlo (by rw [kl_sS]; omega) hr h (i / 6) 0 (Nat.zero_add _)
  have hc : kl_sB a p 0 = 0 := rfl
  rw [hc, Nat.sub_zero] at hw
  exact hw
end
section
/-! the reference's private methods, each with a general post -/
def kl_yf (x y : Int32) : Int32 :=
  if y = 0 then x / 6 * 6 + ((x - x / 6 * 6 + 1) - (x - x / 6 * 6 + 1) / 6 * 6)
  else if y = 1 then x / 6 * 6 + ((x - x / 6 * 6 + 5) - (x - x / 6 * 6 + 5) / 6 * 6)
  else if y = 2 then ((x / 6 + 1) - (x / 6 + 1) / 8 * 8) * 6 + (x - x / 6 * 6)
  else if y = 3 then ((x / 6 + 7) - (x / 6 + 7) / 8 * 8) * 6 + (x - x / 6 * 6)
  else x / 6 * 6 + (x - x / 6 * 6)
theorem kl_yf_tab : ∀ s, s < 48 → ∀ k, k < 4 → kl_yf (nI s) (nI k) = nI (kl_nb s k) := by decide +kernel
theorem kl_yfw {x y : Int32} {ra a ev : Nat → Int32} {post : Int32 → Prop} (h : post (kl_yf x y)) : wpY_neighbour post (ra, a, ev) x y := by
  unfold kl_yf at h
  refine ⟨by decide, nm_e ⟨by decide, nm_e ?_⟩⟩
  by_cases c0 : y = 0
  · rw [if_pos c0] at h
    have c1 : ¬ y = 1 := by rw [c0]; decide
    have c2 : ¬ y = 2 := by rw [c0]; decide
    have c3 : ¬ y = 3 := by rw [c0]; decide
    exact br_t c0 ⟨by decide, nm_e (br_f c1 (br_f c2 (br_f c3 h)))⟩
  · rw [if_neg c0] at h
    refine br_f c0 ?_
    by_cases c1 : y = 1
    · rw [if_pos c1] at h
      have c2 : ¬ y = 2 := by rw [c1]; decide
      have c3 : ¬ y = 3 := by rw [c1]; decide
      exact br_t c1 ⟨by decide, nm_e (br_f c2 (br_f c3 h))⟩
    · rw [if_neg c1] at h
      refine br_f c1 ?_
      by_cases c2 : y = 2
      · rw [if_pos c2] at h
        have c3 : ¬ y = 3 := by rw [c2]; decide
        exact br_t c2 ⟨by decide, nm_e (br_f c3 h)⟩
      · rw [if_neg c2] at h
        refine br_f c2 ?_
        by_cases c3 : y = 3
        · rw [if_pos c3] at h
          exact br_t c3 ⟨by decide, nm_e h⟩
        · rw [if_neg c3] at h
          exact br_f c3 h
theorem kl_ynb {s k : Nat} {ra a ev : Nat → Int32} (hs : s < 48) (hk : k < 4) {post : Int32 → Prop} (h : post (nI (kl_nb s k))) : wpY_neighbour post (ra, a, ev) (nI s) (nI k) := by
  rw [← kl_yf_tab s hs k hk] at h
  exact kl_yfw h
theorem kl_yob4 {ra a ev : Nat → Int32} {s : Nat} (hs : s < 48) {post : Int32 → Prop} (h : post (nI (kl_cn a 1 s 4))) : ∀ d j, j + d = 4 → wY_occupiedBeside_4 post (nI s) ra a ev (d + 1) (nI (kl_cn a 1 s j)) (nI j) := by
  intro d
  induction d with
  | zero =>
    intro j hj
    obtain rfl : j = 4 := by omega
    exact br_t (nI_le (a := 4) (b := 4) (by decide) (by decide)) h
  | succ d ih =>
    intro j hj
    have hn := kl_nb_lt j hs
    have ih' := ih (j + 1) (by omega)
    refine br_f (nI_ge (b := 4) (by omega) (by decide)) (kl_ynb hs (by omega) ⟨vp_in_nI hn (by decide), ?_⟩)
    rw [nI_clamp (by omega)]
    by_cases hc : a (kl_nb s j) = 1
    · rw [kl_cn_t hc] at ih'
      exact br_t hc (nm_r (nI_1 _) (nm_r (nI_1 _) ih'))
    · rw [kl_cn_f hc] at ih'
      exact br_f hc (nm_r (nI_1 _) ih')
theorem kl_yob {ra a ev : Nat → Int32} {s : Nat} (hs : s < 48) {post : Int32 → Prop} (h : post (nI (kl_cn a 1 s 4))) : wpY_occupiedBeside post (ra, a, ev) (nI s) :=
  ⟨5, kl_yob4 hs h 4 0 rfl⟩
theorem kl_yeR {a ev : Nat → Int32} {p : Nat → Nat} {s e : Nat} (hs : s < 48) (he : e < 6) {post : Int32 → Prop} (h : post (nI (kl_eR a p s e))) : wpY_eventRate post (fun j => nI (p j), a, ev) (nI s) (nI e) := by
  have hin : vp_in (nI s) 48 := vp_in_nI hs (by decide)
  refine ⟨hin, ?_⟩
  rw [nI_clamp (by omega)]
  unfold kl_eR at h
  by_cases h0 : a s = 0
  · rw [if_pos h0] at h
    refine br_t h0 (pk_eq e 0 (fun c => ?_) (fun c => ?_))
    · rw [if_pos c] at h
      exact h
    · rw [if_neg c] at h
      exact h
  · rw [if_neg h0] at h
    refine br_f h0 ⟨hin, ?_⟩
    by_cases h2 : a s = 2
    · rw [if_pos h2] at h
      exact br_t h2 h
    · rw [if_neg h2] at h
      refine br_f h2 (pk_eq e 0 (fun c => ?_) (fun c => pk_eq e 1 (fun d => ?_) (fun d => ?_)))
      · rw [if_pos c] at h
        exact h
      · rw [if_neg c, if_pos d] at h
        have hn := kl_cn_le a 1 s 4
        refine kl_yob hs ⟨vp_in_nI (by omega) (by decide), ?_⟩
        rw [nI_clamp (by omega)]
        exact h
      · rw [if_neg c, if_neg d] at h
        have es : nI e - 2 = nI (e - 2) := pk_sub (b := 2) (by omega)
        rw [es]
        have hn := kl_nb_lt (e - 2) hs
        refine kl_ynb hs (by omega) ⟨vp_in_nI hn (by decide), ?_⟩
        rw [nI_clamp (by omega)]
        by_cases hz : a (kl_nb s (e - 2)) = 0
        · rw [if_pos hz] at h
          exact br_t hz h
        · rw [if_neg hz] at h
          exact br_f hz h
theorem kl_ysR16 {a ev : Nat → Int32} {p : Nat → Nat} {s : Nat} (hs : s < 48) {post : Int32 → Prop} (h : post (nI (kl_sA a p s))) : ∀ d j, j + d = 6 → wY_siteRate_16 post (nI s) (fun j => nI (p j)) a ev (d + 1) (nI (kl_sS a p s j)) (nI j) := by
  intro d
  induction d with
  | zero =>
    intro j hj
    obtain rfl : j = 6 := by omega
    rw [kl_sS_6]
    exact br_t (nI_le (a := 6) (b := 6) (by decide) (by decide)) h
  | succ d ih =>
    intro j hj
    exact br_f (nI_ge (b := 6) (by omega) (by decide)) (kl_yeR hs (by omega) (nm_r (nI_add _ _) (nm_r (nI_1 _) (ih (j + 1) (by omega)))))
theorem kl_ysR {a ev : Nat → Int32} {p : Nat → Nat} {s : Nat} (hs : s < 48) {post : Int32 → Prop} (h : post (nI (kl_sA a p s))) : wpY_siteRate post (fun j => nI (p j), a, ev) (nI s) :=
  br_f (nI_pos (by omega)) (br_t (nI_le (b := 47) (by omega) (by decide)) ⟨7, kl_ysR16 hs h 6 0 rfl⟩)
theorem kl_ybe4 {a ev : Nat → Int32} {p : Nat → Nat} {x : Int32} {e : Nat} (he : e ≤ 48) (hx : ∀ j, j < e → ¬ x ≤ nI j) (hy : x ≤ nI e ∨ e = 48) {post : Int32 → Prop} (h : post (nI (kl_sB a p e))) : ∀ d j, j + d = e → wY_before_4 post x (fun j => nI (p j)) a ev (d + 1) (nI (kl_sB a p j)) (nI j) := by
  intro d
  induction d with
  | zero =>
    intro j hj
    obtain rfl : j = e := by omega
    by_cases c : x ≤ nI j
    · exact br_t c h
    · have e48 : j = 48 := by
        cases hy with
        | inl hy => exact absurd hy c
        | inr hy => exact hy
      exact br_f c (br_t (nI_le (a := 48) (by omega) (by omega)) h)
  | succ d ih =>
    intro j hj
    exact br_f (hx j (by omega)) (br_f (nI_ge (b := 48) (by omega) (by decide)) (kl_ysR (by omega) (nm_r (nI_add _ _) (nm_r (nI_1 _) (ih (j + 1) (by omega))))))
theorem kl_ybe {a ev : Nat → Int32} {p : Nat → Nat} {x : Int32} (e : Nat) (he : e ≤ 48) (hx : ∀ j, j < e → ¬ x ≤ nI j) (hy : x ≤ nI e ∨ e = 48) {post : Int32 → Prop} (h : post (nI (kl_sB a p e))) : wpY_before post (fun j => nI (p j), a, ev) x :=
  ⟨e + 1, kl_ybe4 he hx hy h e 0 (Nat.zero_add e)⟩
theorem kl_yto {a ev : Nat → Int32} {p : Nat → Nat} {post : Int32 → Prop} (h : post (nI (kl_sB a p 48))) : wpY_total post (fun j => nI (p j), a, ev) :=
  kl_ybe (x := 48) 48 (Nat.le_refl 48) (fun j hj => nI_ge (b := 48) hj (by decide)) (Or.inr rfl) h
theorem kl_yhap {ra a ev : Nat → Int32} {s e : Nat} (hs : s < 48) (he : e < 6) {post : Int32 → SY → Prop} (h : post (kl_vR s e) (ra, kl_vS a s e, kl_vC ev e)) : wpY_happen post (ra, a, ev) (nI s) (nI e) := by
  have hin : vp_in (nI s) 48 := vp_in_nI hs (by decide)
  have hcl : (nI s).toNatClampNeg = s := nI_clamp (by omega)
  match e, he, h with
  | 0, _, h =>
    refine br_t rfl ⟨hin, nm_e (br_t (by decide) (br_f (by decide) ⟨pk_in 0 3 (by decide), pk_in 0 3 (by decide), nm_e (br_f (by decide) ?_)⟩))⟩
    rw [hcl]
    have e3 : nI s + 64 * 0 + 0 = nI s := by
      rw [Int32.mul_zero, Int32.add_zero, Int32.add_zero]
    show post (nI s + 64 * 0 + 0) _
    rw [e3]
    exact h
  | 1, _, h =>
    refine br_f (by decide) ⟨hin, nm_e (br_t (by decide) (br_f (by decide) ⟨pk_in 1 3 (by decide), pk_in 1 3 (by decide), nm_e (br_f (by decide) ?_)⟩))⟩
    rw [hcl]
    have e3 : nI s + 64 * 1 + 0 = nI s + 64 := by
      rw [Int32.mul_one, Int32.add_zero]
    show post (nI s + 64 * 1 + 0) _
    rw [e3]
    exact h
  | k + 2, he, h =>
    have es : nI (k + 2) - 2 = nI k := pk_sub (a := k + 2) (b := 2) (by omega)
    have hn := kl_nb_lt k hs
    have h2 : (2 : Int32) ≤ nI (k + 2) := nI_le (a := 2) (by omega) (by omega)
    have h2' : ¬ nI (k + 2) < 2 := nI_nlt (b := 2) (by omega) (by omega)
    have h0 : ¬ nI (k + 2) = 0 := nI_ne0 (by omega) (by omega)
    refine br_f h0 ⟨hin, nm_e (br_f h2' ?_)⟩
    rw [es, hcl]
    refine kl_ynb hs (by omega) ⟨vp_in_nI hn (by decide), nm_e (br_t h2 ⟨pk_in 2 3 (by decide), pk_in 2 3 (by decide), nm_e (br_t h2 ?_)⟩)⟩
    rw [es, nI_clamp (by omega)]
    have e1 : kl_vS a s (k + 2) = upd (upd a s 0) (kl_nb s k) 1 := by
      unfold kl_vS
      rw [if_neg (by omega), if_neg (by omega), Nat.add_sub_cancel]
    have e2 : kl_vC ev (k + 2) = upd ev 2 (ev 2 + 1) := by
      unfold kl_vC
      rw [if_neg (by omega), if_neg (by omega)]
    have e3 : kl_vR s (k + 2) = nI s + 128 + 256 * nI k := by
      unfold kl_vR
      rw [if_neg (by omega), if_neg (by omega), Nat.add_sub_cancel]
    rw [e1, e2, e3] at h
    exact h
theorem kl_yst19 {a ev : Nat → Int32} {p : Nat → Nat} {i r : Nat} (hi : i < 288) (hp : ∀ j, p j ≤ 1000) (hlo : kl_fS a p i ≤ r) (hhi : r < kl_fS a p (i + 1)) (hr : r < 2 ^ 31)
    {post : Int32 → SY → Prop} (h : post (kl_vR (i / 6) (i % 6)) (fun j => nI (p j), kl_vS a (i / 6) (i % 6), kl_vC ev (i % 6))) : ∀ d j, j + d = i → wY_step_19 post (nI r) (fun j => nI (p j)) a ev (d + 1) (nI (kl_fS a p j)) (nI j) := by
  intro d
  induction d with
  | zero =>
    intro j hj
    obtain rfl : j = i := by omega
    have hb := kl_fS_le (a := a) hp (i := j + 1) (by omega)
    rw [kl_fS_s] at hhi hb
    refine br_f (nI_ge (b := 288) (by omega) (by decide)) ⟨by decide, by decide, ?_⟩
    rw [kl_r6 (by omega), kl_d6 (by omega)]
    refine kl_yeR (by omega) (by omega) (br_f (nI_nlt (by omega) (by omega)) ?_)
    rw [nI_add]
    exact br_f (nI_ge (by omega) (by omega)) ⟨by decide, by decide, kl_yhap (by omega) (by omega) h⟩
  | succ d ih =>
    intro j hj
    have ih' := ih (j + 1) (by omega)
    have hu := kl_fS_up a p (j := j + 1) (k := i) (by omega)
    rw [kl_fS_s] at ih' hu
    refine br_f (nI_ge (b := 288) (by omega) (by decide)) ⟨by decide, by decide, ?_⟩
    rw [kl_r6 (by omega), kl_d6 (by omega)]
    refine kl_yeR (by omega) (by omega) (br_f (nI_nlt (by omega) (by omega)) ?_)
    rw [nI_add]
    exact br_t (nI_le (by omega) (by omega)) (nm_e (nm_r (nI_1 _) ih'))
theorem kl_yst {a ev : Nat → Int32} {p : Nat → Nat} {i r : Nat} (hi : i < 288) (hp : ∀ j, p j ≤ 1000) (hlo : kl_fS a p i ≤ r) (hhi : r < kl_fS a p (i + 1)) (hr : r < kl_sB a p 48)
    {post : Int32 → SY → Prop} (h : post (kl_vR (i / 6) (i % 6)) (fun j => nI (p j), kl_vS a (i / 6) (i % 6), kl_vC ev (i % 6))) : wpY_step post (fun j => nI (p j), a, ev) (nI r) := by
  have hb := kl_sB_le (a := a) hp 48
  refine br_f (nI_pos (by omega)) (kl_yto (br_t (nI_lt hr (by omega)) ⟨i + 1, ?_⟩))
  exact kl_yst19 hi hp hlo hhi (by omega) h i 0 (Nat.zero_add i)
end
section
/-! pairs: the reference counts each pair twice -/
def kl_sm (f : Nat → Nat) : Nat → Nat
  | 0 => 0
  | n + 1 => kl_sm f n + f n
theorem kl_sm_eq {f g : Nat → Nat} {n : Nat} (h : ∀ j, j < n → f j = g j) : kl_sm f n = kl_sm g n := by
  induction n with
  | zero => rfl
  | succ n ih =>
    show kl_sm f n + f n = kl_sm g n + g n
    rw [ih (fun j hj => h j (by omega)), h n (by omega)]
theorem kl_sm_add (f g : Nat → Nat) (n : Nat) : kl_sm (fun j => f j + g j) n = kl_sm f n + kl_sm g n := by
  induction n with
  | zero => rfl
  | succ n ih =>
    show kl_sm (fun j => f j + g j) n + (f n + g n) = kl_sm f n + f n + (kl_sm g n + g n)
    rw [ih]
    omega
theorem kl_sm_48 (f : Nat → Nat) : kl_sm f 48 = 0 + f 0 + f 1 + f 2 + f 3 + f 4 + f 5 + f 6 + f 7 + f 8 + f 9 + f 10 + f 11 + f 12 + f 13 + f 14 + f 15 + f 16 + f 17 + f 18 + f 19 + f 20 + f 21 + f 22 + f 23 + f 24 + f 25 + f 26 + f 27 + f 28 + f 29 + f 30 + f 31 + f 32 + f 33 + f 34 + f 35 + f 36 + f 37 + f 38 + f 39 + f 40 + f 41 + f 42 + f 43 + f 44 + f 45 + f 46 + f 47 := rfl
theorem kl_pm0 (f : Nat → Nat) : kl_sm (fun s => f (kl_nb s 0)) 48 = kl_sm f 48 := by
  have h : kl_sm (fun s => f (kl_nb s 0)) 48 = 0 + f 1 + f 2 + f 3 + f 4 + f 5 + f 0 + f 7 + f 8 + f 9 + f 10 + f 11 + f 6 + f 13 + f 14 + f 15 + f 16 + f 17 + f 12 + f 19 + f 20 + f 21 + f 22 + f 23 + f 18 + f 25 + f 26 + f 27 + f 28 + f 29 + f 24 + f 31 + f 32 + f 33 + f 34 + f 35 + f 30 + f 37 + f 38 + f 39 + f 40 + f 41 + f 36 + f 43 + f 44 + f 45 + f 46 + f 47 + f 42 := rfl
  rw [h, kl_sm_48]
  omega
theorem kl_pm2 (f : Nat → Nat) : kl_sm (fun s => f (kl_nb s 2)) 48 = kl_sm f 48 := by
  have h : kl_sm (fun s => f (kl_nb s 2)) 48 = 0 + f 6 + f 7 + f 8 + f 9 + f 10 + f 11 + f 12 + f 13 + f 14 + f 15 + f 16 + f 17 + f 18 + f 19 + f 20 + f 21 + f 22 + f 23 + f 24 + f 25 + f 26 + f 27 + f 28 + f 29 + f 30 + f 31 + f 32 + f 33 + f 34 + f 35 + f 36 + f 37 + f 38 + f 39 + f 40 + f 41 + f 42 + f 43 + f 44 + f 45 + f 46 + f 47 + f 0 + f 1 + f 2 + f 3 + f 4 + f 5 := rfl
  rw [h, kl_sm_48]
  omega
theorem kl_nb01 : ∀ s, s < 48 → kl_nb (kl_nb s 0) 1 = s := by decide +kernel
theorem kl_nb23 : ∀ s, s < 48 → kl_nb (kl_nb s 2) 3 = s := by decide +kernel
def kl_o (a : Nat → Int32) (s : Nat) : Nat := if a s = 1 then 1 else 0
theorem kl_sw {a : Nat → Int32} (k m : Nat) (hk : ∀ s, s < 48 → kl_nb (kl_nb s k) m = s) (hp : ∀ f : Nat → Nat, kl_sm (fun s => f (kl_nb s k)) 48 = kl_sm f 48) : kl_sm (fun s => kl_o a s * kl_o a (kl_nb s m)) 48 = kl_sm (fun s => kl_o a s * kl_o a (kl_nb s k)) 48 := by
  rw [← hp (fun s => kl_o a s * kl_o a (kl_nb s m))]
  refine kl_sm_eq (fun j hj => ?_)
  show kl_o a (kl_nb j k) * kl_o a (kl_nb (kl_nb j k) m) = kl_o a j * kl_o a (kl_nb j k)
  rw [hk j hj, Nat.mul_comm]
/-- what the component adds at a site, what the reference adds -/
def kl_pX (a : Nat → Int32) (s : Nat) : Nat := kl_o a s * kl_o a (kl_nb s 0) + kl_o a s * kl_o a (kl_nb s 2)
def kl_pY (a : Nat → Int32) (s : Nat) : Nat := kl_o a s * kl_cn a 1 s 4
theorem kl_cn4 (a : Nat → Int32) (s : Nat) : kl_cn a 1 s 4 = 0 + kl_o a (kl_nb s 0) + kl_o a (kl_nb s 1) + kl_o a (kl_nb s 2) + kl_o a (kl_nb s 3) := rfl
theorem kl_twice (a : Nat → Int32) : kl_sm (kl_pY a) 48 = kl_sm (kl_pX a) 48 * 2 := by
  have e : kl_sm (kl_pY a) 48 = kl_sm (fun s => (kl_o a s * kl_o a (kl_nb s 0) + kl_o a s * kl_o a (kl_nb s 2)) + (kl_o a s * kl_o a (kl_nb s 1) + kl_o a s * kl_o a (kl_nb s 3))) 48 := by
    refine kl_sm_eq (fun j _ => ?_)
    show kl_o a j * kl_cn a 1 j 4 = _
    rw [kl_cn4, Nat.mul_add, Nat.mul_add, Nat.mul_add, Nat.mul_add]
    omega
  have eX : kl_sm (kl_pX a) 48 = kl_sm (fun s => kl_o a s * kl_o a (kl_nb s 0)) 48 + kl_sm (fun s => kl_o a s * kl_o a (kl_nb s 2)) 48 := kl_sm_add _ _ 48
  rw [e, kl_sm_add (fun s => kl_o a s * kl_o a (kl_nb s 0) + kl_o a s * kl_o a (kl_nb s 2)) (fun s => kl_o a s * kl_o a (kl_nb s 1) + kl_o a s * kl_o a (kl_nb s 3)) 48,
    kl_sm_add (fun s => kl_o a s * kl_o a (kl_nb s 1)) (fun s => kl_o a s * kl_o a (kl_nb s 3)) 48,
    kl_sw 0 1 kl_nb01 kl_pm0, kl_sw 2 3 kl_nb23 kl_pm2, ← eX]
  show kl_sm (kl_pX a) 48 + kl_sm (kl_pX a) 48 = _
  omega
theorem kl_o_t {a : Nat → Int32} {s : Nat} (h : a s = 1) : kl_o a s = 1 := if_pos h
theorem kl_o_f {a : Nat → Int32} {s : Nat} (h : ¬ a s = 1) : kl_o a s = 0 := if_neg h
theorem kl_pY_le (a : Nat → Int32) (n : Nat) : kl_sm (kl_pY a) n ≤ 4 * n := by
  induction n with
  | zero => exact Nat.le_refl 0
  | succ n ih =>
    show kl_sm (kl_pY a) n + kl_o a n * kl_cn a 1 n 4 ≤ _
    have h1 := kl_cn_le a 1 n 4
    by_cases h : a n = 1
    · rw [kl_o_t h]; omega
    · rw [kl_o_f h]; omega
theorem kl_xpa46 {a pa co : Nat → Int32} {post : Int32 → Prop} {J : Int32 → Int32 → Prop} {m j q : Nat} (hq : q < 48) (h : J (nI (m + kl_o a q)) (nI (j + 1))) : wX_pairs_46 post J (nI m) (nI j) (nI q) a pa co := by
  refine ⟨vp_in_nI hq (by decide), ?_⟩
  rw [nI_clamp (by omega)]
  by_cases c : a q = 1
  · rw [kl_o_t c] at h
    exact br_t c (nm_r (nI_1 _) (nm_r (nI_1 _) h))
  · rw [kl_o_f c, Nat.add_zero] at h
    exact br_f c (nm_r (nI_1 _) h)
theorem kl_xpa4 {a pa co : Nat → Int32} {post : Int32 → Prop} (h : post (nI (kl_sm (kl_pX a) 48))) : ∀ d j, j + d = 48 → wX_pairs_4 post a pa co (d + 1) (nI (kl_sm (kl_pX a) j)) (nI j) := by
  intro d
  induction d with
  | zero =>
    intro j hj
    obtain rfl : j = 48 := by omega
    exact br_t (nI_le (a := 48) (b := 48) (by decide) (by decide)) h
  | succ d ih =>
    intro j hj
    have hj' : j < 48 := by omega
    have ih' := ih (j + 1) (by omega)
    have es : kl_sm (kl_pX a) (j + 1) = kl_sm (kl_pX a) j + (kl_o a j * kl_o a (kl_nb j 0) + kl_o a j * kl_o a (kl_nb j 2)) := rfl
    rw [es] at ih'
    refine br_f (nI_ge (b := 48) hj' (by decide)) ⟨vp_in_nI hj' (by decide), ?_⟩
    rw [nI_clamp (by omega)]
    by_cases c : a j = 1
    · rw [kl_o_t c, Nat.one_mul, Nat.one_mul, ← Nat.add_assoc] at ih'
      have h0 := kl_nb_lt 0 hj'
      have h2 := kl_nb_lt 2 hj'
      refine br_t c (kl_xnb (k := 0) hj' (by decide) (kl_xnb (k := 2) hj' (by decide) ⟨vp_in_nI h0 (by decide), ?_⟩))
      rw [nI_clamp (by omega)]
      by_cases c0 : a (kl_nb j 0) = 1
      · rw [kl_o_t c0] at ih'
        exact br_t c0 (nm_r (nI_1 _) (kl_xpa46 h2 ih'))
      · rw [kl_o_f c0, Nat.add_zero] at ih'
        exact br_f c0 (kl_xpa46 h2 ih')
    · rw [kl_o_f c, Nat.zero_mul, Nat.zero_mul, Nat.add_zero] at ih'
      exact br_f c (nm_r (nI_1 _) ih')
theorem kl_ypa4 {ra a ev : Nat → Int32} {post : Int32 → Prop} (h : post (nI (kl_sm (kl_pX a) 48))) : ∀ d j, j + d = 48 → wY_pairs_4 post ra a ev (d + 1) (nI (kl_sm (kl_pY a) j)) (nI j) := by
  intro d
  induction d with
  | zero =>
    intro j hj
    obtain rfl : j = 48 := by omega
    refine br_t (nI_le (a := 48) (b := 48) (by decide) (by decide)) ⟨by decide, ?_⟩
    have hl := kl_pY_le a 48
    have e : nI (kl_sm (kl_pY a) 48) / 2 = nI (kl_sm (kl_pY a) 48 / 2) := pk_div (d := 2) (by omega) (by decide) (by decide)
    rw [e, kl_twice, Nat.mul_div_cancel _ (by decide)]
    exact h
  | succ d ih =>
    intro j hj
    have hj' : j < 48 := by omega
    have ih' := ih (j + 1) (by omega)
    have es : kl_sm (kl_pY a) (j + 1) = kl_sm (kl_pY a) j + kl_o a j * kl_cn a 1 j 4 := rfl
    rw [es] at ih'
    refine br_f (nI_ge (b := 48) hj' (by decide)) ⟨vp_in_nI hj' (by decide), ?_⟩
    rw [nI_clamp (by omega)]
    by_cases c : a j = 1
    · rw [kl_o_t c, Nat.one_mul] at ih'
      exact br_t c (kl_yob hj' (nm_r (nI_add _ _) (nm_r (nI_1 _) ih')))
    · rw [kl_o_f c, Nat.zero_mul, Nat.add_zero] at ih'
      exact br_f c (nm_r (nI_1 _) ih')
theorem kl_xpa {a pa co : Nat → Int32} {post : Int32 → Prop} (h : post (nI (kl_sm (kl_pX a) 48))) : wpX_pairs post (a, pa, co) :=
  ⟨49, kl_xpa4 h 48 0 rfl⟩
theorem kl_ypa {ra a ev : Nat → Int32} {post : Int32 → Prop} (h : post (nI (kl_sm (kl_pX a) 48))) : wpY_pairs post (ra, a, ev) :=
  ⟨49, kl_ypa4 h 48 0 rfl⟩
end
section
/-! run, clear, occupied, the constructors: both sides at once -/
theorem kl_48 (a : Nat → Int32) (p : Nat → Nat) : kl_fS a p 288 = kl_sB a p 48 := by
  show kl_sB a p 48 + kl_sS a p 48 0 = _
  exact Nat.add_zero _
/-- one step, on both sides: one event -/
theorem kl_one {a co : Nat → Int32} {p : Nat → Nat} (hp : ∀ j, p j ≤ 1000) {r : Nat} (hr : r < kl_sB a p 48) : ∃ (x : Int32) (a' co' : Nat → Int32),
    (∀ post : Int32 → SX → Prop, post x (a', fun j => nI (p j), co') → wpX_pick post (a, fun j => nI (p j), co) (nI r)) ∧
    (∀ post : Int32 → SY → Prop, post x (fun j => nI (p j), a', co') → wpY_step post (fun j => nI (p j), a, co) (nI r)) := by
  have hb := kl_sB_le (a := a) hp 48
  obtain ⟨i, hi, h1, h2⟩ := kl_find a p r 288 (by rw [kl_48]; exact hr)
  exact ⟨kl_vR (i / 6) (i % 6), kl_vS a (i / 6) (i % 6), kl_vC co (i % 6), fun post h => kl_xpick hi hp h1 h2 (by omega) h, fun post h => kl_yst hi hp h1 h2 hr h⟩
theorem kl_rnd (x : Int32) {B : Nat} (h0 : 0 < B) (hB : B < 2 ^ 31) : ∃ r, r < B ∧ (((x.toUInt32 >>> ((8 : Int32).toUInt32 &&& Int32.toUInt32 31)).toInt32) &&& 1048575) - (((x.toUInt32 >>> ((8 : Int32).toUInt32 &&& Int32.toUInt32 31)).toInt32) &&& 1048575) / nI B * nI B = nI r := by
  obtain ⟨j, hj, e⟩ := pk_andE ((x.toUInt32 >>> ((8 : Int32).toUInt32 &&& Int32.toUInt32 31)).toInt32) (m := 1048575) 20 (by decide)
  refine ⟨j % B, Nat.mod_lt _ h0, ?_⟩
  rw [e]
  exact pk_rem (by omega) h0 hB
/-- the reference's idle turns, once the total is 0 -/
theorem kl_idle {a ev : Nat → Int32} {p : Nat → Nat} {v x m : Int32} {e : Nat} (he : e ≤ 200) (hx : ∀ j, j < e → ¬ v ≤ nI j) (hy : v ≤ nI e ∨ e = 200) (h0 : kl_sB a p 48 = 0) {post : Int32 → SY → Prop} (h : post m (fun j => nI (p j), a, ev)) : ∀ d j, j + d = e → wY_run_8 post v (d + 1) x m (nI j) (fun j => nI (p j)) a ev := by
  intro d
  induction d with
  | zero =>
    intro j hj
    obtain rfl : j = e := by omega
    by_cases c : v ≤ nI j
    · exact br_t c h
    · have e200 : j = 200 := by
        cases hy with
        | inl hy => exact absurd hy c
        | inr hy => exact hy
      exact br_f c (br_t (nI_le (a := 200) (by omega) (by omega)) h)
  | succ d ih =>
    intro j hj
    refine br_f (hx j (by omega)) (br_f (nI_ge (b := 200) (by omega) (by decide)) (kl_yto ?_))
    rw [h0]
    exact br_t (by decide) (nm_r (nI_1 _) (ih (j + 1) (by omega)))
theorem kl_run {p : Nat → Nat} (hp : ∀ j, p j ≤ 1000) {v : Int32} {e : Nat} (he : e ≤ 200) (hx : ∀ j, j < e → ¬ v ≤ nI j) (hy : v ≤ nI e ∨ e = 200) : ∀ d j, j + d = e → ∀ (x : Int32) (a co : Nat → Int32), ∃ (r : Int32) (a' co' : Nat → Int32),
    (∀ post : Int32 → SX → Prop, post r (a', fun j => nI (p j), co') → wX_run_14 post (nI e) (d + 1) x (nI j) a (fun j => nI (p j)) co) ∧
    (∀ post : Int32 → SY → Prop, post r (fun j => nI (p j), a', co') → wY_run_8 post v (d + 1) x (nI j) (nI j) (fun j => nI (p j)) a co) := by
  intro d
  induction d with
  | zero =>
    intro j hj x a co
    obtain rfl : j = e := by omega
    refine ⟨nI j, a, co, fun post h => br_t (nI_le (Nat.le_refl j) (by omega)) h, fun post h => ?_⟩
    by_cases c : v ≤ nI j
    · exact br_t c h
    · have e200 : j = 200 := by
        cases hy with
        | inl hy => exact absurd hy c
        | inr hy => exact hy
      exact br_f c (br_t (nI_le (a := 200) (by omega) (by omega)) h)
  | succ d ih =>
    intro j hj x a co
    have hb := kl_sB_le (a := a) hp 48
    by_cases hz : kl_sB a p 48 = 0
    · refine ⟨nI j, a, co, fun post h => br_f (nI_ge (by omega) (by omega)) (kl_xsB48 ?_), fun post h => kl_idle he hx hy hz h (d + 1) j hj⟩
      rw [hz]
      exact br_f (by decide) h
    · obtain ⟨r, hr, er⟩ := kl_rnd (x * 1103515245 + 12345) (B := kl_sB a p 48) (by omega) (by omega)
      obtain ⟨y, a1, c1, hX, hY⟩ := kl_one (co := co) hp hr
      obtain ⟨z, a2, c2, kX, kY⟩ := ih (j + 1) (by omega) (x * 1103515245 + 12345) a1 c1
      refine ⟨z, a2, c2, fun post h => br_f (nI_ge (by omega) (by omega)) (kl_xsB48 (br_t (nI_lt (a := 0) (by omega) (by omega)) (nm_e ⟨nI_ne0 (by omega) (by omega), nm_r er (hX _ (nm_r (nI_1 _) (kX post h)))⟩))), fun post h => ?_⟩
      refine br_f (hx j (by omega)) (br_f (nI_ge (b := 200) (by omega) (by decide)) (kl_yto (br_f (nI_nle (by omega) (by omega)) (nm_e ⟨nI_ne0 (by omega) (by omega), ?_⟩))))
      rw [er]
      exact hY _ (nm_r (nI_1 _) (nm_r (nI_1 _) (kY post h)))
theorem kl_clear {pa co : Nat → Int32} : ∀ d j, j + d = 48 → ∀ a : Nat → Int32, ∃ a' : Nat → Int32,
    (∀ post : SX → Prop, post (a', pa, co) → wX_clear_2 post (d + 1) (nI j) a pa co) ∧
    (∀ post : SY → Prop, post (pa, a', co) → wY_clear_2 post (d + 1) (nI j) pa a co) := by
  intro d
  induction d with
  | zero =>
    intro j hj a
    obtain rfl : j = 48 := by omega
    have h48 : (48 : Int32) ≤ nI 48 := nI_le (a := 48) (b := 48) (by decide) (by decide)
    exact ⟨a, fun post h => br_t h48 h, fun post h => br_t h48 h⟩
  | succ d ih =>
    intro j hj a
    have hc : ¬ (48 : Int32) ≤ nI j := nI_ge (b := 48) (by omega) (by decide)
    have hin : vp_in (nI j) 48 := vp_in_nI (by omega) (by decide)
    obtain ⟨a', hX, hY⟩ := ih (j + 1) (by omega) (upd a (nI j).toNatClampNeg 0)
    exact ⟨a', fun post h => br_f hc ⟨hin, nm_e (nm_r (nI_1 _) (hX post h))⟩, fun post h => br_f hc ⟨hin, nm_e (nm_r (nI_1 _) (hY post h))⟩⟩
theorem kl_occ {a pa co : Nat → Int32} : ∀ d j, j + d = 48 → ∀ x : Int32, ∃ r : Int32,
    (∀ post : Int32 → Prop, post r → wX_occupied_4 post a pa co (d + 1) x (nI j)) ∧
    (∀ post : Int32 → Prop, post r → wY_occupied_4 post pa a co (d + 1) x (nI j)) := by
  intro d
  induction d with
  | zero =>
    intro j hj x
    obtain rfl : j = 48 := by omega
    have h48 : (48 : Int32) ≤ nI 48 := nI_le (a := 48) (b := 48) (by decide) (by decide)
    exact ⟨x, fun post h => br_t h48 h, fun post h => br_t h48 h⟩
  | succ d ih =>
    intro j hj x
    have hc : ¬ (48 : Int32) ≤ nI j := nI_ge (b := 48) (by omega) (by decide)
    have hin : vp_in (nI j) 48 := vp_in_nI (by omega) (by decide)
    by_cases c : a (nI j).toNatClampNeg = 1
    · obtain ⟨r, hX, hY⟩ := ih (j + 1) (by omega) (x + 1)
      exact ⟨r, fun post h => br_f hc ⟨hin, br_t c (nm_e (nm_r (nI_1 _) (hX post h)))⟩, fun post h => br_f hc ⟨hin, br_t c (nm_e (nm_r (nI_1 _) (hY post h)))⟩⟩
    · obtain ⟨r, hX, hY⟩ := ih (j + 1) (by omega) x
      exact ⟨r, fun post h => br_f hc ⟨hin, br_f c (nm_r (nI_1 _) (hX post h))⟩, fun post h => br_f hc ⟨hin, br_f c (nm_r (nI_1 _) (hY post h))⟩⟩
theorem kl_upd {p : Nat → Nat} {k m : Nat} (hp : ∀ j, p j ≤ 1000) (hm : m ≤ 1000) : ∃ q : Nat → Nat, (∀ j, q j ≤ 1000) ∧ upd (fun j => nI (p j)) k (nI m) = fun j => nI (q j) := by
  refine ⟨fun j => if j = k then m else p j, fun j => ?_, ?_⟩
  · show (if j = k then m else p j) ≤ 1000
    split
    · exact hm
    · exact hp j
  · funext j
    show (if j = k then nI m else nI (p j)) = nI (if j = k then m else p j)
    split <;> rfl
theorem kl_init {a co : Nat → Int32} : ∀ d j, j + d = 7 → ∀ p : Nat → Nat, (∀ j, p j ≤ 1000) → ∃ q : Nat → Nat, (∀ j, q j ≤ 1000) ∧
    (∀ post : SX → Prop, post (a, fun j => nI (q j), co) → wX_init_29 post (d + 1) (nI j) a (fun j => nI (p j)) co) ∧
    (∀ post : SY → Prop, post (fun j => nI (q j), a, co) → wY_init_29 post (d + 1) (nI j) (fun j => nI (p j)) a co) := by
  intro d
  induction d with
  | zero =>
    intro j hj p hp
    obtain rfl : j = 7 := by omega
    have h7 : (7 : Int32) ≤ nI 7 := nI_le (a := 7) (b := 7) (by decide) (by decide)
    exact ⟨p, hp, fun post h => br_t h7 h, fun post h => br_t h7 h⟩
  | succ d ih =>
    intro j hj p hp
    have hc : ¬ (7 : Int32) ≤ nI j := nI_ge (b := 7) (by omega) (by decide)
    have hin : vp_in (nI j) 7 := vp_in_nI (by omega) (by decide)
    obtain ⟨p1, hp1, e⟩ := kl_upd (p := p) (k := (nI j).toNatClampNeg) (m := 1) hp (by decide)
    obtain ⟨q, hq, hX, hY⟩ := ih (j + 1) (by omega) p1 hp1
    exact ⟨q, hq, fun post h => br_f hc ⟨hin, nm_r e (nm_r (nI_1 _) (hX post h))⟩, fun post h => br_f hc ⟨hin, nm_r e (nm_r (nI_1 _) (hY post h))⟩⟩
end
section
/-- the same sites, parameters and counts on both sides; each parameter is 0 to 1000 -/
def i_Rel (_ : Nat) (u : SX) (v : SY) : Prop := ∃ (a : Nat → Int32) (p : Nat → Nat) (c : Nat → Int32), u = (a, fun j => nI (p j), c) ∧ v = (fun j => nI (p j), a, c) ∧ ∀ j, p j ≤ 1000
theorem i_up {k : Nat} {u : SX} {v : SY} (h : i_Rel k u v) : i_Rel (k + 3) u v := h
theorem i_vc0 : wpX_init (fun u => wpY_init (fun v => i_Rel 0 u v)) := by
  obtain ⟨q, hq, hX, hY⟩ := kl_init (a := fun _ => 0) (co := fun _ => 0) 7 0 rfl (fun _ => 0) (fun _ => Nat.zero_le _)
  exact ⟨8, hX _ ⟨8, hY _ ⟨_, q, _, rfl, rfl, hq⟩⟩⟩
theorem i_vc_rate {k : Nat} {u : SX} {v : SY} (I : i_Rel k u v) (hk : k + 3 ≤ 1536) (v1 : Int32) (v2 : Int32) : wpX_rate (fun r u' => wpY_rate (fun r' v' => r' = r ∧ i_Rel (k + 3) u' v') v v1 v2) u v1 v2 := by
  obtain ⟨a, p, c, rfl, rfl, hp⟩ := I
  by_cases h0 : v1 < 0
  · exact br_t h0 (br_t h0 ⟨rfl, a, p, c, rfl, rfl, hp⟩)
  · obtain ⟨w, hw, rfl⟩ := nI_of h0
    by_cases h7 : w < 7
    · have hX : nI w < 7 := nI_lt (b := 7) h7 (by decide)
      have hY : nI w ≤ 6 := nI_le (b := 6) (by omega) (by decide)
      by_cases g0 : v2 < 0
      · exact br_f h0 (br_t hX (br_t g0 (br_f h0 (br_t hY (br_t g0 ⟨rfl, a, p, c, rfl, rfl, hp⟩)))))
      · by_cases g1 : v2 ≤ 1000
        · obtain ⟨m, hm, rfl⟩ := nI_of2 (M := 1000) (n := 1000) (by decide) g0 g1
          obtain ⟨q, hq, e⟩ := kl_upd (p := p) (k := (nI w).toNatClampNeg) hp hm
          have hin : vp_in (nI w) 7 := vp_in_nI h7 (by decide)
          exact br_f h0 (br_t hX (br_f g0 (br_t g1 ⟨hin, nm_e ⟨hin, nm_r e (br_f h0 (br_t hY (br_f g0 (br_t g1 ⟨hin, nm_e ⟨hin, nm_r e ⟨rfl, a, q, c, rfl, rfl, hq⟩⟩⟩))))⟩⟩)))
        · exact br_f h0 (br_t hX (br_f g0 (br_f g1 (br_f h0 (br_t hY (br_f g0 (br_f g1 ⟨rfl, a, p, c, rfl, rfl, hp⟩)))))))
    · have hX : ¬ nI w < 7 := nI_nlt (b := 7) (by omega) hw
      have hY : ¬ nI w ≤ 6 := nI_ge (a := 6) (by omega) hw
      exact br_f h0 (br_f hX (br_f h0 (br_f hY ⟨rfl, a, p, c, rfl, rfl, hp⟩)))
theorem kl_site {x : Int32} {post : Int32 → Prop} (hb : x < 0 → post 0) (hl : ¬ x < 0 → ¬ x ≤ 47 → post 0) (hi : ∀ s, s < 48 → x = nI s → post 1) : wpX_isSite post x := by
  by_cases h0 : x < 0
  · exact br_t h0 (hb h0)
  · obtain ⟨w, hw, rfl⟩ := nI_of h0
    by_cases h : w < 48
    · exact br_f h0 (br_f (nI_ge (b := 48) h (by decide)) (hi w h rfl))
    · exact br_f h0 (br_t (nI_le (a := 48) (by omega) hw) (hl h0 (nI_ge (a := 47) (by omega) hw)))
theorem i_vc_set {k : Nat} {u : SX} {v : SY} (I : i_Rel k u v) (hk : k + 3 ≤ 1536) (v1 : Int32) (v2 : Int32) : wpX_set (fun r u' => wpY_set (fun r' v' => r' = r ∧ i_Rel (k + 3) u' v') v v1 v2) u v1 v2 := by
  obtain ⟨a, p, c, rfl, rfl, hp⟩ := I
  unfold wpX_set
  dsimp only
  refine kl_site (fun h0 => ?_) (fun h0 h1 => ?_) (fun s hs e => ?_)
  · exact br_t rfl (br_t h0 ⟨rfl, a, p, c, rfl, rfl, hp⟩)
  · exact br_t rfl (br_f h0 (br_f h1 ⟨rfl, a, p, c, rfl, rfl, hp⟩))
  subst e
  have h0 : ¬ nI s < 0 := nI_pos (by omega)
  have hY : nI s ≤ 47 := nI_le (b := 47) (by omega) (by decide)
  have hin : vp_in (nI s) 48 := vp_in_nI hs (by decide)
  refine br_f (by decide) ?_
  by_cases g0 : v2 < 0
  · exact br_t g0 (br_f h0 (br_t hY (br_t g0 ⟨rfl, a, p, c, rfl, rfl, hp⟩)))
  · by_cases g1 : v2 ≤ 2
    · exact br_f g0 (br_t g1 ⟨hin, nm_e ⟨hin, nm_e (br_f h0 (br_t hY (br_f g0 (br_t g1 ⟨hin, nm_e ⟨hin, nm_e ⟨rfl, _, p, c, rfl, rfl, hp⟩⟩⟩))))⟩⟩)
    · exact br_f g0 (br_f g1 (br_f h0 (br_t hY (br_f g0 (br_f g1 ⟨rfl, a, p, c, rfl, rfl, hp⟩)))))
theorem i_vc_step {k : Nat} {u : SX} {v : SY} (I : i_Rel k u v) (hk : k + 3 ≤ 1536) (v1 : Int32) : wpX_step (fun r u' => wpY_step (fun r' v' => r' = r ∧ i_Rel (k + 3) u' v') v v1) u v1 := by
  obtain ⟨a, p, c, rfl, rfl, hp⟩ := I
  have hb := kl_sB_le (a := a) hp 48
  refine kl_xsB48 ?_
  by_cases h0 : v1 < 0
  · exact br_t h0 (br_t h0 ⟨rfl, a, p, c, rfl, rfl, hp⟩)
  · obtain ⟨r, hr, rfl⟩ := nI_of h0
    refine br_f h0 ?_
    by_cases h1 : r < kl_sB a p 48
    · obtain ⟨x, a', c', hX, hY⟩ := kl_one (co := c) hp h1
      exact br_t (nI_lt h1 (by omega)) (hX _ (hY _ ⟨rfl, a', p, c', rfl, rfl, hp⟩))
    · have h2 : ¬ nI r < nI (kl_sB a p 48) := nI_nlt (by omega) hr
      exact br_f h2 (br_f h0 (kl_yto (br_f h2 ⟨rfl, a, p, c, rfl, rfl, hp⟩)))
theorem i_vc_run {k : Nat} {u : SX} {v : SY} (I : i_Rel k u v) (hk : k + 3 ≤ 1536) (v1 : Int32) (v2 : Int32) : wpX_run (fun r u' => wpY_run (fun r' v' => r' = r ∧ i_Rel (k + 3) u' v') v v1 v2) u v1 v2 := by
  obtain ⟨a, p, c, rfl, rfl, hp⟩ := I
  by_cases h0 : 0 ≤ v1
  · obtain ⟨n, hn, rfl⟩ := nI_of (x := v1) (Int32.not_lt.mpr h0)
    by_cases h1 : n ≤ 200
    · obtain ⟨r, a', c', hX, hY⟩ := kl_run hp (v := nI n) h1 (fun j hj => nI_ge hj hn) (Or.inl (nI_le (Nat.le_refl n) hn)) n 0 (Nat.zero_add n) v2 a c
      exact br_t h0 (br_t (nI_le (b := 200) h1 (by decide)) ⟨n + 1, hX _ ⟨n + 1, hY _ ⟨rfl, a', p, c', rfl, rfl, hp⟩⟩⟩)
    · obtain ⟨r, a', c', hX, hY⟩ := kl_run hp (v := nI n) (Nat.le_refl 200) (fun j hj => nI_ge (by omega) hn) (Or.inr rfl) 200 0 rfl v2 a c
      exact br_t h0 (br_f (nI_ge (a := 200) (by omega) hn) ⟨201, hX _ ⟨201, hY _ ⟨rfl, a', p, c', rfl, rfl, hp⟩⟩⟩)
  · have h0' : v1 ≤ nI 0 := Int32.le_of_lt (Int32.not_le.mp h0)
    obtain ⟨r, a', c', hX, hY⟩ := kl_run hp (v := v1) (Nat.zero_le 200) (fun j hj => absurd hj (Nat.not_lt_zero j)) (Or.inl h0') 0 0 rfl v2 a c
    exact br_f h0 ⟨1, hX _ ⟨1, hY _ ⟨rfl, a', p, c', rfl, rfl, hp⟩⟩⟩
theorem i_vc_clear {k : Nat} {u : SX} {v : SY} (I : i_Rel k u v) (hk : k + 3 ≤ 1536) : wpX_clear (fun u' => wpY_clear (fun v' => i_Rel (k + 3) u' v') v) u := by
  obtain ⟨a, p, c, rfl, rfl, hp⟩ := I
  obtain ⟨a', hX, hY⟩ := kl_clear (pa := fun j => nI (p j)) (co := c) 48 0 rfl a
  exact ⟨49, hX _ ⟨49, hY _ ⟨a', p, c, rfl, rfl, hp⟩⟩⟩
theorem i_vc_state {k : Nat} {u : SX} {v : SY} (I : i_Rel k u v) (hk : k + 3 ≤ 1536) (v1 : Int32) : wpX_state (fun r => wpY_state (fun r' => r' = r ∧ i_Rel (k + 3) u v) v v1) u v1 := by
  obtain ⟨a, p, c, rfl, rfl, hp⟩ := I
  unfold wpX_state
  dsimp only
  refine kl_site (fun h0 => ?_) (fun h0 h1 => ?_) (fun s hs e => ?_)
  · exact br_t rfl (br_t h0 ⟨rfl, a, p, c, rfl, rfl, hp⟩)
  · exact br_t rfl (br_f h0 (br_f h1 ⟨rfl, a, p, c, rfl, rfl, hp⟩))
  subst e
  have hin : vp_in (nI s) 48 := vp_in_nI hs (by decide)
  exact br_f (by decide) ⟨hin, br_f (nI_pos (by omega)) (br_t (nI_le (b := 47) (by omega) (by decide)) ⟨hin, rfl, a, p, c, rfl, rfl, hp⟩)⟩
theorem i_vc_total {k : Nat} {u : SX} {v : SY} (I : i_Rel k u v) (hk : k + 3 ≤ 1536) : wpX_total (fun r => wpY_total (fun r' => r' = r ∧ i_Rel (k + 3) u v) v) u := by
  obtain ⟨a, p, c, rfl, rfl, hp⟩ := I
  refine kl_xsB48 ?_
  exact kl_yto ⟨rfl, a, p, c, rfl, rfl, hp⟩
theorem i_vc_siteRate {k : Nat} {u : SX} {v : SY} (I : i_Rel k u v) (hk : k + 3 ≤ 1536) (v1 : Int32) : wpX_siteRate (fun r => wpY_siteRate (fun r' => r' = r ∧ i_Rel (k + 3) u v) v v1) u v1 := by
  obtain ⟨a, p, c, rfl, rfl, hp⟩ := I
  unfold wpX_siteRate
  dsimp only
  refine kl_site (fun h0 => ?_) (fun h0 h1 => ?_) (fun s hs e => ?_)
  · exact br_t rfl (br_t h0 ⟨rfl, a, p, c, rfl, rfl, hp⟩)
  · exact br_t rfl (br_f h0 (br_f h1 ⟨rfl, a, p, c, rfl, rfl, hp⟩))
  subst e
  exact br_f (by decide) (kl_xsA hs (kl_ysR hs ⟨rfl, a, p, c, rfl, rfl, hp⟩))
theorem i_vc_occupied {k : Nat} {u : SX} {v : SY} (I : i_Rel k u v) (hk : k + 3 ≤ 1536) : wpX_occupied (fun r => wpY_occupied (fun r' => r' = r ∧ i_Rel (k + 3) u v) v) u := by
  obtain ⟨a, p, c, rfl, rfl, hp⟩ := I
  obtain ⟨r, hX, hY⟩ := kl_occ (a := a) (pa := fun j => nI (p j)) (co := c) 48 0 rfl 0
  exact ⟨49, hX _ ⟨49, hY _ ⟨rfl, a, p, c, rfl, rfl, hp⟩⟩⟩
theorem i_vc_pairs {k : Nat} {u : SX} {v : SY} (I : i_Rel k u v) (hk : k + 3 ≤ 1536) : wpX_pairs (fun r => wpY_pairs (fun r' => r' = r ∧ i_Rel (k + 3) u v) v) u := by
  obtain ⟨a, p, c, rfl, rfl, hp⟩ := I
  exact kl_xpa (kl_ypa ⟨rfl, a, p, c, rfl, rfl, hp⟩)
theorem i_vc_happened {k : Nat} {u : SX} {v : SY} (I : i_Rel k u v) (hk : k + 3 ≤ 1536) (v1 : Int32) : wpX_happened (fun r => wpY_happened (fun r' => r' = r ∧ i_Rel (k + 3) u v) v v1) u v1 := by
  obtain ⟨a, p, c, rfl, rfl, hp⟩ := I
  by_cases h0 : v1 < 0
  · exact br_t h0 (br_t h0 ⟨rfl, a, p, c, rfl, rfl, hp⟩)
  · obtain ⟨w, hw, rfl⟩ := nI_of h0
    by_cases h3 : w < 3
    · have hin : vp_in (nI w) 3 := vp_in_nI h3 (by decide)
      exact br_f h0 (br_t (nI_lt (b := 3) h3 (by decide)) ⟨hin, br_f h0 (br_t (nI_le (b := 2) (by omega) (by decide)) ⟨hin, rfl, a, p, c, rfl, rfl, hp⟩)⟩)
    · exact br_f h0 (br_f (nI_nlt (b := 3) (by omega) hw) (br_f h0 (br_f (nI_ge (a := 2) (by omega) hw) ⟨rfl, a, p, c, rfl, rfl, hp⟩)))
theorem i_vc_before {k : Nat} {u : SX} {v : SY} (I : i_Rel k u v) (hk : k + 3 ≤ 1536) (v1 : Int32) : wpX_before (fun r => wpY_before (fun r' => r' = r ∧ i_Rel (k + 3) u v) v v1) u v1 := by
  obtain ⟨a, p, c, rfl, rfl, hp⟩ := I
  by_cases h0 : 0 ≤ v1
  · obtain ⟨n, hn, rfl⟩ := nI_of (x := v1) (Int32.not_lt.mpr h0)
    by_cases h1 : n ≤ 48
    · exact br_t h0 (br_t (nI_le (b := 48) h1 (by decide)) (kl_xsB h1 (kl_ybe n h1 (fun j hj => nI_ge hj hn) (Or.inl (nI_le (Nat.le_refl n) hn)) ⟨rfl, a, p, c, rfl, rfl, hp⟩)))
    · exact br_t h0 (br_f (nI_ge (a := 48) (by omega) hn) (kl_xsB48 (kl_ybe 48 (Nat.le_refl 48) (fun j hj => nI_ge (by omega) hn) (Or.inr rfl) ⟨rfl, a, p, c, rfl, rfl, hp⟩)))
  · have h0' : v1 ≤ nI 0 := Int32.le_of_lt (Int32.not_le.mp h0)
    exact br_f h0 (kl_xsB (e := 0) (Nat.zero_le 48) (kl_ybe 0 (Nat.zero_le 48) (fun j hj => absurd hj (Nat.not_lt_zero j)) (Or.inl h0') ⟨rfl, a, p, c, rfl, rfl, hp⟩))
end
