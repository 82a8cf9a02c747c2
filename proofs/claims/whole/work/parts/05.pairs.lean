/-! pairs: the reference counts each pair twice -/
def kl_sm (f : Nat → Nat) : Nat → Nat
  | 0 => 0
  | n + 1 => kl_sm f n + f n
theorem kl_sm_eq {f g : Nat → Nat} {n : Nat} (h : ∀ j, j < n → f j = g j) : kl_sm f n = kl_sm g n := by
  induction n with
  | zero => rfl
  | succ n ih =>
    show kl_sm f n + f n = kl_sm g n + g n
    rw [ih (fun j hj => h j (by omega)), h n (by omega)]
theorem kl_sm_add (f g : Nat → Nat) (n : Nat) : kl_sm (fun j => f j + g j) n = kl_sm f n + kl_sm g n := by
  induction n with
  | zero => rfl
  | succ n ih =>
    show kl_sm (fun j => f j + g j) n + (f n + g n) = kl_sm f n + f n + (kl_sm g n + g n)
    rw [ih]
    omega
theorem kl_sm_48 (f : Nat → Nat) : kl_sm f 48 = 0 + f 0 + f 1 + f 2 + f 3 + f 4 + f 5 + f 6 + f 7 + f 8 + f 9 + f 10 + f 11 + f 12 + f 13 + f 14 + f 15 + f 16 + f 17 + f 18 + f 19 + f 20 + f 21 + f 22 + f 23 + f 24 + f 25 + f 26 + f 27 + f 28 + f 29 + f 30 + f 31 + f 32 + f 33 + f 34 + f 35 + f 36 + f 37 + f 38 + f 39 + f 40 + f 41 + f 42 + f 43 + f 44 + f 45 + f 46 + f 47 := rfl
theorem kl_pm0 (f : Nat → Nat) : kl_sm (fun s => f (kl_nb s 0)) 48 = kl_sm f 48 := by
  have h : kl_sm (fun s => f (kl_nb s 0)) 48 = 0 + f 1 + f 2 + f 3 + f 4 + f 5 + f 0 + f 7 + f 8 + f 9 + f 10 + f 11 + f 6 + f 13 + f 14 + f 15 + f 16 + f 17 + f 12 + f 19 + f 20 + f 21 + f 22 + f 23 + f 18 + f 25 + f 26 + f 27 + f 28 + f 29 + f 24 + f 31 + f 32 + f 33 + f 34 + f 35 + f 30 + f 37 + f 38 + f 39 + f 40 + f 41 + f 36 + f 43 + f 44 + f 45 + f 46 + f 47 + f 42 := rfl
  rw [h, kl_sm_48]
  omega
theorem kl_pm2 (f : Nat → Nat) : kl_sm (fun s => f (kl_nb s 2)) 48 = kl_sm f 48 := by
  have h : kl_sm (fun s => f (kl_nb s 2)) 48 = 0 + f 6 + f 7 + f 8 + f 9 + f 10 + f 11 + f 12 + f 13 + f 14 + f 15 + f 16 + f 17 + f 18 + f 19 + f 20 + f 21 + f 22 + f 23 + f 24 + f 25 + f 26 + f 27 + f 28 + f 29 + f 30 + f 31 + f 32 + f 33 + f 34 + f 35 + f 36 + f 37 + f 38 + f 39 + f 40 + f 41 + f 42 + f 43 + f 44 + f 45 + f 46 + f 47 + f 0 + f 1 + f 2 + f 3 + f 4 + f 5 := rfl
  rw [h, kl_sm_48]
  omega
theorem kl_nb01 : ∀ s, s < 48 → kl_nb (kl_nb s 0) 1 = s := by decide +kernel
theorem kl_nb23 : ∀ s, s < 48 → kl_nb (kl_nb s 2) 3 = s := by decide +kernel
def kl_o (a : Nat → Int32) (s : Nat) : Nat := if a s = 1 then 1 else 0
theorem kl_sw {a : Nat → Int32} (k m : Nat) (hk : ∀ s, s < 48 → kl_nb (kl_nb s k) m = s) (hp : ∀ f : Nat → Nat, kl_sm (fun s => f (kl_nb s k)) 48 = kl_sm f 48) : kl_sm (fun s => kl_o a s * kl_o a (kl_nb s m)) 48 = kl_sm (fun s => kl_o a s * kl_o a (kl_nb s k)) 48 := by
  rw [← hp (fun s => kl_o a s * kl_o a (kl_nb s m))]
  refine kl_sm_eq (fun j hj => ?_)
  show kl_o a (kl_nb j k) * kl_o a (kl_nb (kl_nb j k) m) = kl_o a j * kl_o a (kl_nb j k)
  rw [hk j hj, Nat.mul_comm]
/-- what the component adds at a site, what the reference adds -/
def kl_pX (a : Nat → Int32) (s : Nat) : Nat := kl_o a s * kl_o a (kl_nb s 0) + kl_o a s * kl_o a (kl_nb s 2)
def kl_pY (a : Nat → Int32) (s : Nat) : Nat := kl_o a s * kl_cn a 1 s 4
theorem kl_cn4 (a : Nat → Int32) (s : Nat) : kl_cn a 1 s 4 = 0 + kl_o a (kl_nb s 0) + kl_o a (kl_nb s 1) + kl_o a (kl_nb s 2) + kl_o a (kl_nb s 3) := rfl
theorem kl_twice (a : Nat → Int32) : kl_sm (kl_pY a) 48 = kl_sm (kl_pX a) 48 * 2 := by
  have e : kl_sm (kl_pY a) 48 = kl_sm (fun s => (kl_o a s * kl_o a (kl_nb s 0) + kl_o a s * kl_o a (kl_nb s 2)) + (kl_o a s * kl_o a (kl_nb s 1) + kl_o a s * kl_o a (kl_nb s 3))) 48 := by
    refine kl_sm_eq (fun j _ => ?_)
    show kl_o a j * kl_cn a 1 j 4 = _
    rw [kl_cn4, Nat.mul_add, Nat.mul_add, Nat.mul_add, Nat.mul_add]
    omega
  have eX : kl_sm (kl_pX a) 48 = kl_sm (fun s => kl_o a s * kl_o a (kl_nb s 0)) 48 + kl_sm (fun s => kl_o a s * kl_o a (kl_nb s 2)) 48 := kl_sm_add _ _ 48
  rw [e, kl_sm_add (fun s => kl_o a s * kl_o a (kl_nb s 0) + kl_o a s * kl_o a (kl_nb s 2)) (fun s => kl_o a s * kl_o a (kl_nb s 1) + kl_o a s * kl_o a (kl_nb s 3)) 48,
    kl_sm_add (fun s => kl_o a s * kl_o a (kl_nb s 1)) (fun s => kl_o a s * kl_o a (kl_nb s 3)) 48,
    kl_sw 0 1 kl_nb01 kl_pm0, kl_sw 2 3 kl_nb23 kl_pm2, ← eX]
  show kl_sm (kl_pX a) 48 + kl_sm (kl_pX a) 48 = _
  omega
theorem kl_o_t {a : Nat → Int32} {s : Nat} (h : a s = 1) : kl_o a s = 1 := if_pos h
theorem kl_o_f {a : Nat → Int32} {s : Nat} (h : ¬ a s = 1) : kl_o a s = 0 := if_neg h
theorem kl_pY_le (a : Nat → Int32) (n : Nat) : kl_sm (kl_pY a) n ≤ 4 * n := by
  induction n with
  | zero => exact Nat.le_refl 0
  | succ n ih =>
    show kl_sm (kl_pY a) n + kl_o a n * kl_cn a 1 n 4 ≤ _
    have h1 := kl_cn_le a 1 n 4
    by_cases h : a n = 1
    · rw [kl_o_t h]; omega
    · rw [kl_o_f h]; omega
theorem kl_xpa46 {a pa co : Nat → Int32} {post : Int32 → Prop} {J : Int32 → Int32 → Prop} {m j q : Nat} (hq : q < 48) (h : J (nI (m + kl_o a q)) (nI (j + 1))) : wX_pairs_46 post J (nI m) (nI j) (nI q) a pa co := by
  refine ⟨vp_in_nI hq (by decide), ?_⟩
  rw [nI_clamp (by omega)]
  by_cases c : a q = 1
  · rw [kl_o_t c] at h
    exact br_t c (nm_r (nI_1 _) (nm_r (nI_1 _) h))
  · rw [kl_o_f c, Nat.add_zero] at h
    exact br_f c (nm_r (nI_1 _) h)
theorem kl_xpa4 {a pa co : Nat → Int32} {post : Int32 → Prop} (h : post (nI (kl_sm (kl_pX a) 48))) : ∀ d j, j + d = 48 → wX_pairs_4 post a pa co (d + 1) (nI (kl_sm (kl_pX a) j)) (nI j) := by
  intro d
  induction d with
  | zero =>
    intro j hj
    obtain rfl : j = 48 := by omega
    exact br_t (nI_le (a := 48) (b := 48) (by decide) (by decide)) h
  | succ d ih =>
    intro j hj
    have hj' : j < 48 := by omega
    have ih' := ih (j + 1) (by omega)
    have es : kl_sm (kl_pX a) (j + 1) = kl_sm (kl_pX a) j + (kl_o a j * kl_o a (kl_nb j 0) + kl_o a j * kl_o a (kl_nb j 2)) := rfl
    rw [es] at ih'
    refine br_f (nI_ge (b := 48) hj' (by decide)) ⟨vp_in_nI hj' (by decide), ?_⟩
    rw [nI_clamp (by omega)]
    by_cases c : a j = 1
    · rw [kl_o_t c, Nat.one_mul, Nat.one_mul, ← Nat.add_assoc] at ih'
      have h0 := kl_nb_lt 0 hj'
      have h2 := kl_nb_lt 2 hj'
      refine br_t c (kl_xnb (k := 0) hj' (by decide) (kl_xnb (k := 2) hj' (by decide) ⟨vp_in_nI h0 (by decide), ?_⟩))
      rw [nI_clamp (by omega)]
      by_cases c0 : a (kl_nb j 0) = 1
      · rw [kl_o_t c0] at ih'
        exact br_t c0 (nm_r (nI_1 _) (kl_xpa46 h2 ih'))
      · rw [kl_o_f c0, Nat.add_zero] at ih'
        exact br_f c0 (kl_xpa46 h2 ih')
    · rw [kl_o_f c, Nat.zero_mul, Nat.zero_mul, Nat.add_zero] at ih'
      exact br_f c (nm_r (nI_1 _) ih')
theorem kl_ypa4 {ra a ev : Nat → Int32} {post : Int32 → Prop} (h : post (nI (kl_sm (kl_pX a) 48))) : ∀ d j, j + d = 48 → wY_pairs_4 post ra a ev (d + 1) (nI (kl_sm (kl_pY a) j)) (nI j) := by
  intro d
  induction d with
  | zero =>
    intro j hj
    obtain rfl : j = 48 := by omega
    refine br_t (nI_le (a := 48) (b := 48) (by decide) (by decide)) ⟨by decide, ?_⟩
    have hl := kl_pY_le a 48
    have e : nI (kl_sm (kl_pY a) 48) / 2 = nI (kl_sm (kl_pY a) 48 / 2) := pk_div (d := 2) (by omega) (by decide) (by decide)
    rw [e, kl_twice, Nat.mul_div_cancel _ (by decide)]
    exact h
  | succ d ih =>
    intro j hj
    have hj' : j < 48 := by omega
    have ih' := ih (j + 1) (by omega)
    have es : kl_sm (kl_pY a) (j + 1) = kl_sm (kl_pY a) j + kl_o a j * kl_cn a 1 j 4 := rfl
    rw [es] at ih'
    refine br_f (nI_ge (b := 48) hj' (by decide)) ⟨vp_in_nI hj' (by decide), ?_⟩
    rw [nI_clamp (by omega)]
    by_cases c : a j = 1
    · rw [kl_o_t c, Nat.one_mul] at ih'
      exact br_t c (kl_yob hj' (nm_r (nI_add _ _) (nm_r (nI_1 _) ih')))
    · rw [kl_o_f c, Nat.zero_mul, Nat.add_zero] at ih'
      exact br_f c (nm_r (nI_1 _) ih')
theorem kl_xpa {a pa co : Nat → Int32} {post : Int32 → Prop} (h : post (nI (kl_sm (kl_pX a) 48))) : wpX_pairs post (a, pa, co) :=
  ⟨49, kl_xpa4 h 48 0 rfl⟩
theorem kl_ypa {ra a ev : Nat → Int32} {post : Int32 → Prop} (h : post (nI (kl_sm (kl_pX a) 48))) : wpY_pairs post (ra, a, ev) :=
  ⟨49, kl_ypa4 h 48 0 rfl⟩
