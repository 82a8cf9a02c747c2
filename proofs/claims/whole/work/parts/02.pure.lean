/-! the lattice's arithmetic in naturals: neighbours, counts, rates, sums -/
def kl_nb (s k : Nat) : Nat :=
  if k = 0 then s / 6 * 6 + (s % 6 + 1) % 6
  else if k = 1 then s / 6 * 6 + (s % 6 + 5) % 6
  else if k = 2 then (s / 6 + 1) % 8 * 6 + s % 6
  else (s / 6 + 7) % 8 * 6 + s % 6
theorem kl_nb_lt {s : Nat} (k : Nat) (h : s < 48) : kl_nb s k < 48 := by
  unfold kl_nb
  split
  · omega
  · split
    · omega
    · split <;> omega
def kl_cn (a : Nat → Int32) (c : Int32) (s : Nat) : Nat → Nat
  | 0 => 0
  | j + 1 => kl_cn a c s j + (if a (kl_nb s j) = c then 1 else 0)
theorem kl_cn_le (a : Nat → Int32) (c : Int32) (s : Nat) : ∀ j, kl_cn a c s j ≤ j := by
  intro j
  induction j with
  | zero => exact Nat.le_refl 0
  | succ j ih =>
    show kl_cn a c s j + (if a (kl_nb s j) = c then 1 else 0) ≤ j + 1
    split <;> omega
theorem kl_cn_up (a : Nat → Int32) (c : Int32) (s : Nat) {j k : Nat} (h : j ≤ k) : kl_cn a c s j ≤ kl_cn a c s k := by
  induction k with
  | zero => rw [Nat.le_zero.mp h]; exact Nat.le_refl _
  | succ k ih =>
    by_cases e : j = k + 1
    · rw [e]; exact Nat.le_refl _
    · have := ih (by omega)
      show kl_cn a c s j ≤ kl_cn a c s k + (if a (kl_nb s k) = c then 1 else 0)
      omega
theorem kl_cn_t {a : Nat → Int32} {c : Int32} {s j : Nat} (h : a (kl_nb s j) = c) : kl_cn a c s (j + 1) = kl_cn a c s j + 1 := by
  show kl_cn a c s j + (if a (kl_nb s j) = c then 1 else 0) = _
  rw [if_pos h]
theorem kl_cn_f {a : Nat → Int32} {c : Int32} {s j : Nat} (h : ¬ a (kl_nb s j) = c) : kl_cn a c s (j + 1) = kl_cn a c s j := by
  show kl_cn a c s j + (if a (kl_nb s j) = c then 1 else 0) = _
  rw [if_neg h, Nat.add_zero]
/-- a site's own rate, as the component reckons it -/
def kl_sA (a : Nat → Int32) (p : Nat → Nat) (s : Nat) : Nat :=
  if a s = 2 then 0 else if a s = 0 then p 5 else p (kl_cn a 1 s 4) + kl_cn a 0 s 4 * p 6
/-- the rate of the event e of site s, as the reference reckons it -/
def kl_eR (a : Nat → Int32) (p : Nat → Nat) (s e : Nat) : Nat :=
  if a s = 0 then (if e = 0 then p 5 else 0)
  else if a s = 2 then 0
  else if e = 0 then 0
  else if e = 1 then p (kl_cn a 1 s 4)
  else if a (kl_nb s (e - 2)) = 0 then p 6 else 0
def kl_sS (a : Nat → Int32) (p : Nat → Nat) (s : Nat) : Nat → Nat
  | 0 => 0
  | e + 1 => kl_sS a p s e + kl_eR a p s e
def kl_sB (a : Nat → Int32) (p : Nat → Nat) : Nat → Nat
  | 0 => 0
  | n + 1 => kl_sB a p n + kl_sA a p n
theorem kl_sS_e {a : Nat → Int32} {p : Nat → Nat} {s : Nat} (h : a s = 0) (j : Nat) : kl_sS a p s (j + 1) = p 5 := by
  induction j with
  | zero =>
    show 0 + kl_eR a p s 0 = p 5
    rw [kl_eR, if_pos h, if_pos rfl, Nat.zero_add]
  | succ j ih =>
    show kl_sS a p s (j + 1) + kl_eR a p s (j + 1) = p 5
    rw [ih, kl_eR, if_pos h, if_neg (Nat.succ_ne_zero j), Nat.add_zero]
theorem kl_sS_b {a : Nat → Int32} {p : Nat → Nat} {s : Nat} (h : a s = 2) (j : Nat) : kl_sS a p s j = 0 := by
  have h0 : ¬ a s = 0 := by rw [h]; decide
  induction j with
  | zero => rfl
  | succ j ih =>
    show kl_sS a p s j + kl_eR a p s j = 0
    rw [ih, kl_eR, if_neg h0, if_pos h]
theorem kl_sS_1 {a : Nat → Int32} {p : Nat → Nat} {s : Nat} (h0 : ¬ a s = 0) : kl_sS a p s 1 = 0 := by
  show 0 + kl_eR a p s 0 = 0
  rw [kl_eR, if_neg h0, if_pos rfl, Nat.zero_add]
  split <;> rfl
theorem kl_sS_o {a : Nat → Int32} {p : Nat → Nat} {s : Nat} (h0 : ¬ a s = 0) (h2 : ¬ a s = 2) (j : Nat) : kl_sS a p s (j + 2) = p (kl_cn a 1 s 4) + kl_cn a 0 s j * p 6 := by
  induction j with
  | zero =>
    show kl_sS a p s 1 + kl_eR a p s 1 = p (kl_cn a 1 s 4) + 0 * p 6
    rw [kl_sS_1 h0, kl_eR, if_neg h0, if_neg h2, if_neg (by decide), if_pos rfl, Nat.zero_add, Nat.zero_mul, Nat.add_zero]
  | succ j ih =>
    show kl_sS a p s (j + 2) + kl_eR a p s (j + 2) = _
    rw [ih, kl_eR, if_neg h0, if_neg h2, if_neg (by omega), if_neg (by omega), Nat.add_sub_cancel]
    by_cases h : a (kl_nb s j) = 0
    · rw [if_pos h, kl_cn_t h, Nat.add_mul, Nat.one_mul, Nat.add_assoc]
    · rw [if_neg h, kl_cn_f h, Nat.add_zero]
theorem kl_sS_6 (a : Nat → Int32) (p : Nat → Nat) (s : Nat) : kl_sS a p s 6 = kl_sA a p s := by
  unfold kl_sA
  by_cases h2 : a s = 2
  · rw [if_pos h2, kl_sS_b h2]
  · by_cases h0 : a s = 0
    · rw [if_neg h2, if_pos h0, kl_sS_e h0 5]
    · rw [if_neg h2, if_neg h0, kl_sS_o h0 h2 4]
theorem kl_sS_up (a : Nat → Int32) (p : Nat → Nat) (s : Nat) {j k : Nat} (h : j ≤ k) : kl_sS a p s j ≤ kl_sS a p s k := by
  induction k with
  | zero => rw [Nat.le_zero.mp h]; exact Nat.le_refl _
  | succ k ih =>
    by_cases e : j = k + 1
    · rw [e]; exact Nat.le_refl _
    · have := ih (by omega)
      show kl_sS a p s j ≤ kl_sS a p s k + kl_eR a p s k
      omega
theorem kl_sB_up (a : Nat → Int32) (p : Nat → Nat) {j k : Nat} (h : j ≤ k) : kl_sB a p j ≤ kl_sB a p k := by
  induction k with
  | zero => rw [Nat.le_zero.mp h]; exact Nat.le_refl _
  | succ k ih =>
    by_cases e : j = k + 1
    · rw [e]; exact Nat.le_refl _
    · have := ih (by omega)
      show kl_sB a p j ≤ kl_sB a p k + kl_sA a p k
      omega
theorem kl_sA_le {a : Nat → Int32} {p : Nat → Nat} (hp : ∀ j, p j ≤ 1000) (s : Nat) : kl_sA a p s ≤ 5000 := by
  unfold kl_sA
  have h5 := hp 5
  have hn := hp (kl_cn a 1 s 4)
  have hm : kl_cn a 0 s 4 * p 6 ≤ 4 * 1000 := Nat.mul_le_mul (kl_cn_le a 0 s 4) (hp 6)
  split
  · omega
  · split <;> omega
theorem kl_sB_le {a : Nat → Int32} {p : Nat → Nat} (hp : ∀ j, p j ≤ 1000) (n : Nat) : kl_sB a p n ≤ 5000 * n := by
  induction n with
  | zero => exact Nat.le_refl 0
  | succ n ih =>
    have := kl_sA_le (a := a) hp n
    show kl_sB a p n + kl_sA a p n ≤ _
    omega
theorem kl_sS_le {a : Nat → Int32} {p : Nat → Nat} (hp : ∀ j, p j ≤ 1000) (s : Nat) {e : Nat} (he : e ≤ 6) : kl_sS a p s e ≤ 5000 := by
  have h1 := kl_sS_up a p s he
  have h2 := kl_sA_le (a := a) hp s
  rw [kl_sS_6] at h1
  omega
/-- the sum of the rates of the first i events -/
def kl_fS (a : Nat → Int32) (p : Nat → Nat) (i : Nat) : Nat := kl_sB a p (i / 6) + kl_sS a p (i / 6) (i % 6)
theorem kl_fS_s (a : Nat → Int32) (p : Nat → Nat) (i : Nat) : kl_fS a p (i + 1) = kl_fS a p i + kl_eR a p (i / 6) (i % 6) := by
  unfold kl_fS
  by_cases h : i % 6 = 5
  · have e1 : (i + 1) / 6 = i / 6 + 1 := by omega
    have e2 : (i + 1) % 6 = 0 := by omega
    rw [e1, e2, h]
    have e3 : kl_sS a p (i / 6) 6 = kl_sS a p (i / 6) 5 + kl_eR a p (i / 6) 5 := rfl
    show kl_sB a p (i / 6) + kl_sA a p (i / 6) + 0 = _
    rw [← kl_sS_6, e3]
    omega
  · have e1 : (i + 1) / 6 = i / 6 := by omega
    have e2 : (i + 1) % 6 = i % 6 + 1 := by omega
    rw [e1, e2]
    show kl_sB a p (i / 6) + (kl_sS a p (i / 6) (i % 6) + kl_eR a p (i / 6) (i % 6)) = _
    omega
theorem kl_fS_up (a : Nat → Int32) (p : Nat → Nat) {j k : Nat} (h : j ≤ k) : kl_fS a p j ≤ kl_fS a p k := by
  induction k with
  | zero => rw [Nat.le_zero.mp h]; exact Nat.le_refl _
  | succ k ih =>
    by_cases e : j = k + 1
    · rw [e]; exact Nat.le_refl _
    · have := ih (by omega)
      rw [kl_fS_s]
      omega
theorem kl_fS_le {a : Nat → Int32} {p : Nat → Nat} (hp : ∀ j, p j ≤ 1000) {i : Nat} (hi : i ≤ 288) : kl_fS a p i ≤ 300000 := by
  unfold kl_fS
  have h1 := kl_sB_le (a := a) hp (i / 6)
  have h2 := kl_sS_le (a := a) hp (i / 6) (e := i % 6) (by omega)
  omega
theorem kl_find (a : Nat → Int32) (p : Nat → Nat) (r : Nat) (i : Nat) (h : r < kl_fS a p i) : ∃ j, j < i ∧ kl_fS a p j ≤ r ∧ r < kl_fS a p (j + 1) := by
  induction i with
  | zero => exact absurd h (Nat.not_lt_zero r)
  | succ i ih =>
    by_cases c : kl_fS a p i ≤ r
    · exact ⟨i, by omega, c, h⟩
    · obtain ⟨j, hj, h1, h2⟩ := ih (by omega)
      exact ⟨j, by omega, h1, h2⟩
/-- an event: what it makes of the sites, of the counts, and its answer -/
def kl_vS (a : Nat → Int32) (s e : Nat) : Nat → Int32 :=
  if e = 0 then upd a s 1 else if e = 1 then upd a s 0 else upd (upd a s 0) (kl_nb s (e - 2)) 1
def kl_vC (c : Nat → Int32) (e : Nat) : Nat → Int32 :=
  if e = 0 then upd c 0 (c 0 + 1) else if e = 1 then upd c 1 (c 1 + 1) else upd c 2 (c 2 + 1)
def kl_vR (s e : Nat) : Int32 :=
  if e = 0 then nI s else if e = 1 then nI s + 64 else nI s + 128 + 256 * nI (e - 2)
