/-! fulfilment -/
def ma_b (mask : Int32) (x : Nat) : Nat := if ((mask >>> (nI x &&& 31)) &&& 1) = 1 then 1 else 0
def ma_vl (K N : Nat → Nat) (b f : Nat → Nat) (i : Nat) : Nat := if K i = 0 then b (N i) else if K i ≤ ma_sm (fun j => f (ma_ch K N i j)) (N i) then 1 else 0
def ma_fl (K N b : Nat → Nat) : Nat → Nat → Nat
  | 0 => fun _ => 0
  | i + 1 => fun c => if c = i then ma_vl K N b (ma_fl K N b i) i else ma_fl K N b i c
def ma_F (K N b : Nat → Nat) (c : Nat) : Nat := ma_fl K N b (c + 1) c
theorem ma_fl_F (K N b : Nat → Nat) : ∀ i c, c < i → ma_fl K N b i c = ma_F K N b c := by
  intro i
  induction i with
  | zero => intro c hc; exact absurd hc (Nat.not_lt_zero _)
  | succ i ih =>
    intro c hc
    by_cases e : c = i
    · rw [e, ma_F]
    · rw [← ih c (by omega), ma_fl]
      exact if_neg e
theorem ma_F_eq {K N : Nat → Nat} {m : Nat} (h : ma_wf K N m) (b : Nat → Nat) {i : Nat} (hi : i < m) : ma_F K N b i = ma_vl K N b (ma_F K N b) i := by
  have e : ma_F K N b i = ma_vl K N b (ma_fl K N b i) i := if_pos rfl
  rw [e, ma_vl, ma_vl]
  by_cases hk : K i = 0
  · rw [if_pos hk, if_pos hk]
  · rw [if_neg hk, if_neg hk]
    have : ma_sm (fun j => ma_fl K N b i (ma_ch K N i j)) (N i) = ma_sm (fun j => ma_F K N b (ma_ch K N i j)) (N i) := ma_sm_congr (fun j hj => ma_fl_F K N b i _ (ma_ch_lt h hi (by omega) hj))
    rw [this]
theorem ma_b01 (mask : Int32) (x : Nat) : ma_b mask x ≤ 1 := by
  rw [ma_b]; split <;> omega
theorem ma_F01 {K N : Nat → Nat} {m : Nat} (h : ma_wf K N m) (mask : Int32) {i : Nat} (hi : i < m) : ma_F K N (ma_b mask) i ≤ 1 := by
  rw [ma_F_eq h _ hi, ma_vl]
  split
  · exact ma_b01 _ _
  · split <;> omega
/-! the numbers at the nodes -/
def ma_po (a : Nat → Nat) (k x : Nat) : Nat := ma_sm (fun d => a d * x ^ d) k
def ma_Gd (K N : Nat → Nat) (s : Nat) (val : Nat → Nat) (c : Nat) : Prop := val (s - 1) % 251 = c % 251 ∧ ∀ t, t < s → 0 < K t → ∃ a : Nat → Nat, a 0 % 251 = val t % 251 ∧ ∀ j, j < N t → val (ma_ch K N t j) % 251 = ma_po a (K t) (j + 1) % 251
theorem ma_am {a b c d : Nat} (h1 : a % 251 = b % 251) (h2 : c % 251 = d % 251) : (a + c) % 251 = (b + d) % 251 := by
  rw [Nat.add_mod, h1, h2, ← Nat.add_mod]
theorem ma_mm {a b c d : Nat} (h1 : a % 251 = b % 251) (h2 : c % 251 = d % 251) : (a * c) % 251 = (b * d) % 251 := by
  rw [Nat.mul_mod, h1, h2, ← Nat.mul_mod]
theorem ma_Gd_0 (K N : Nat → Nat) (s : Nat) : ma_Gd K N s (fun _ => 0) 0 :=
  ⟨rfl, fun t _ _ => ⟨fun _ => 0, rfl, fun j _ => by
    show 0 % 251 = ma_sm (fun d => 0 * (j + 1) ^ d) (K t) % 251
    rw [ma_sm_0 (fun d _ => Nat.zero_mul _)]⟩⟩
theorem ma_Gd_add {K N : Nat → Nat} {s : Nat} {v w : Nat → Nat} {c d : Nat} (h1 : ma_Gd K N s v c) (h2 : ma_Gd K N s w d) : ma_Gd K N s (fun i => v i + w i) (c + d) := by
  refine ⟨ma_am h1.1 h2.1, fun t ht hk => ?_⟩
  obtain ⟨a, a0, ha⟩ := h1.2 t ht hk
  obtain ⟨b, b0, hb⟩ := h2.2 t ht hk
  refine ⟨fun i => a i + b i, ma_am a0 b0, fun j hj => ?_⟩
  have e : ma_po (fun i => a i + b i) (K t) (j + 1) = ma_po a (K t) (j + 1) + ma_po b (K t) (j + 1) := by
    rw [ma_po, ma_po, ma_po, ← ma_sm_add]
    exact ma_sm_congr (fun i _ => Nat.add_mul _ _ _)
  rw [e]
  exact ma_am (ha j hj) (hb j hj)
theorem ma_Gd_mul {K N : Nat → Nat} {s : Nat} {v : Nat → Nat} {c : Nat} (f : Nat) (h1 : ma_Gd K N s v c) : ma_Gd K N s (fun i => f * v i) (f * c) := by
  refine ⟨ma_mm rfl h1.1, fun t ht hk => ?_⟩
  obtain ⟨a, a0, ha⟩ := h1.2 t ht hk
  refine ⟨fun i => f * a i, ma_mm rfl a0, fun j hj => ?_⟩
  have e : ma_po (fun i => f * a i) (K t) (j + 1) = f * ma_po a (K t) (j + 1) := by
    rw [ma_po, ma_po, ← ma_sm_mul]
    exact ma_sm_congr (fun i _ => Nat.mul_assoc _ _ _)
  rw [e]
  exact ma_mm rfl (ha j hj)
theorem ma_Gd_c {K N : Nat → Nat} {s : Nat} {v : Nat → Nat} {c d : Nat} (h : ma_Gd K N s v c) (e : c % 251 = d % 251) : ma_Gd K N s v d := ⟨h.1.trans e, h.2⟩
/-! Lagrange: C the chosen places as bits -/
def lz_has (C x : Nat) : Bool := C / 2 ^ x % 2 == 1
def lz_lp (C x : Nat) : Nat → Nat → Nat → Nat → Nat
  | 0, _, ab, be => ab * (be ^ 249 % 251) % 251
  | d + 1, o, ab, be => if o = x then lz_lp C x d (o + 1) ab be else if lz_has C o then lz_lp C x d (o + 1) (ab * o % 251) (be * (o + 251 - x) % 251) else lz_lp C x d (o + 1) ab be
def lz_w (C x : Nat) : Nat := if lz_has C x then lz_lp C x 5 1 1 1 else 0
def lz_pc (C : Nat) : Nat := ma_sm (fun j => if lz_has C (j + 1) then 1 else 0) 5
theorem lz_tab : ∀ C, C < 64 → ∀ d, d < 5 → d < lz_pc C → ma_sm (fun j => lz_w C (j + 1) * (j + 1) ^ d) 5 % 251 = if d = 0 then 1 else 0 := by decide +kernel
theorem lz_wlt : ∀ C, C < 64 → ∀ x, x < 6 → lz_w C x < 251 := by decide +kernel
theorem lz_pc5 : ∀ C, C < 64 → lz_pc C ≤ 5 := by decide +kernel
theorem lz_or : ∀ C, C < 64 → ∀ j, j < 5 → lz_has C (j + 1) = false → lz_pc (C ||| 2 ^ (j + 1)) = lz_pc C + 1 := by decide +kernel
theorem lz_or2 : ∀ C, C < 64 → ∀ j, j < 5 → ∀ i, i < 5 → lz_has (C ||| 2 ^ (j + 1)) (i + 1) = (lz_has C (i + 1) || (i == j)) := by decide +kernel
theorem lz_orI : ∀ C, C < 64 → ∀ j, j < 5 → nI C ||| ((1 : Int32) <<< (nI (j + 1) &&& 31)) = nI (C ||| 2 ^ (j + 1)) ∧ C ||| 2 ^ (j + 1) < 64 := by decide +kernel
theorem lz_hasI : ∀ C, C < 64 → ∀ x, x < 6 → ((nI C >>> (nI x &&& 31)) &&& 1 = 1 ↔ lz_has C x = true) := by decide +kernel
theorem lz_main (a : Nat → Nat) {C k : Nat} (hC : C < 64) (hk : lz_pc C = k) (h0 : 0 < k) : ma_sm (fun j => lz_w C (j + 1) * ma_po a k (j + 1)) 5 % 251 = a 0 % 251 := by
  have h5 : k ≤ 5 := hk ▸ lz_pc5 C hC
  have e1 : ma_sm (fun j => lz_w C (j + 1) * ma_po a k (j + 1)) 5 = ma_sm (fun d => a d * ma_sm (fun j => lz_w C (j + 1) * (j + 1) ^ d) 5) k := by
    have : ma_sm (fun j => lz_w C (j + 1) * ma_po a k (j + 1)) 5 = ma_sm (fun j => ma_sm (fun d => a d * (lz_w C (j + 1) * (j + 1) ^ d)) k) 5 := by
      refine ma_sm_congr (fun j _ => ?_)
      show lz_w C (j + 1) * ma_sm _ k = _
      rw [← ma_sm_mul]
      refine ma_sm_congr (fun d _ => ?_)
      show lz_w C (j + 1) * (a d * (j + 1) ^ d) = a d * (lz_w C (j + 1) * (j + 1) ^ d)
      rw [Nat.mul_left_comm]
    rw [this, ma_sm_swap (fun j d => a d * (lz_w C (j + 1) * (j + 1) ^ d))]
    exact ma_sm_congr (fun d _ => ma_sm_mul _ _ _)
  rw [e1]
  have e2 : ma_sm (fun d => a d * ma_sm (fun j => lz_w C (j + 1) * (j + 1) ^ d) 5) k % 251 = ma_sm (fun d => if d = 0 then a d else 0) k % 251 := by
    refine ma_sm_mod (fun d hd => ?_)
    show (a d * _) % 251 = _
    rw [Nat.mul_mod, lz_tab C hC d (by omega) (by omega)]
    by_cases h : d = 0
    · rw [if_pos h, if_pos h]
      show a d % 251 * 1 % 251 = _
      rw [Nat.mul_one, Nat.mod_mod]
    · rw [if_neg h, if_neg h]; rfl
  rw [e2, ma_sm_one a 0 k, if_pos h0]
