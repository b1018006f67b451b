section
theorem pk_us {f : Nat → Int32} {k : Nat} {x : Int32} : upd f k x k = x := if_pos rfl
theorem pk_un {f : Nat → Int32} {k j : Nat} {x : Int32} (h : j ≠ k) : upd f k x j = f j := if_neg h
theorem pk_sub {a b : Nat} (h : b ≤ a) : nI a - nI b = nI (a - b) := by
  obtain ⟨c, rfl⟩ : ∃ c, a = c + b := ⟨a - b, by omega⟩
  rw [← nI_add, Int32.add_sub_cancel, Nat.add_sub_cancel]
theorem pk_m1 (n : Nat) : nI (n + 1) + (-1) = nI n := by
  rw [← nI_1, Int32.add_assoc, show (1 : Int32) + (-1) = 0 from rfl, Int32.add_zero]
theorem pk_mul (a b : Nat) : nI a * nI b = nI (a * b) := (Int32.ofNat_mul a b).symm
theorem pk_div {a d : Nat} (ha : a < 2 ^ 31) (h0 : 0 < d) (hd : d < 2 ^ 31) : nI a / nI d = nI (a / d) := by
  apply Int32.toInt_inj.mp
  rw [lg_idiv_nonneg (by rw [nI_toInt ha]; omega) (by rw [nI_toInt hd]; omega), nI_toInt ha, nI_toInt hd, nI_toInt (Nat.lt_of_le_of_lt (Nat.div_le_self a d) ha)]
  first | rfl | exact (Int.natCast_ediv _ _).symm
theorem pk_rem {a d : Nat} (ha : a < 2 ^ 31) (h0 : 0 < d) (hd : d < 2 ^ 31) : nI a - nI a / nI d * nI d = nI (a % d) := by
  rw [pk_div ha h0 hd, pk_mul, pk_sub (Nat.div_mul_le_self a d)]
  exact congrArg nI (by have := Nat.div_add_mod' a d; omega)
theorem pk_le {x y : Int32} {A B : Prop} (a b : Nat) (f : a ≤ b → A) (g : b < a → B) (hx : x = nI a := by rfl) (hy : y = nI b := by rfl) (ha : a < 2 ^ 31 := by omega) (hb : b < 2 ^ 31 := by omega) : (x ≤ y → A) ∧ (¬ x ≤ y → B) := by
  subst hx hy
  rw [nI_leI ha hb]
  exact ⟨f, fun z => g (by omega)⟩
theorem pk_lt {x y : Int32} {A B : Prop} (a b : Nat) (f : a < b → A) (g : b ≤ a → B) (hx : x = nI a := by rfl) (hy : y = nI b := by rfl) (ha : a < 2 ^ 31 := by omega) (hb : b < 2 ^ 31 := by omega) : (x < y → A) ∧ (¬ x < y → B) := by
  subst hx hy
  rw [nI_ltI ha hb]
  exact ⟨f, fun z => g (by omega)⟩
theorem pk_eq {x y : Int32} {A B : Prop} (a b : Nat) (f : a = b → A) (g : a ≠ b → B) (hx : x = nI a := by rfl) (hy : y = nI b := by rfl) (ha : a < 2 ^ 31 := by omega) (hb : b < 2 ^ 31 := by omega) : (x = y → A) ∧ (¬ x = y → B) := by
  subst hx hy
  rw [nI_eq ha hb]
  exact ⟨f, g⟩
theorem pk_in {x : Int32} (n N : Nat) (h : n < N) (hx : x = nI n := by rfl) (hN : N < 2 ^ 31 := by omega) : vp_in x N := by
  subst hx
  exact vp_in_nI h hN
theorem pk_cl {x : Int32} (n : Nat) (hx : x = nI n := by rfl) (h : n < 2 ^ 31 := by omega) : x.toNatClampNeg = n := by
  subst hx
  exact nI_clamp h
theorem pk_lT {n : Nat} (h : n < 2 ^ 63) : (lN n).toInt = (n : Int) := lg_ofNat_toInt h
theorem pk_lLT {a b : Nat} (ha : a < 2 ^ 63) (hb : b < 2 ^ 63) : lN a < lN b ↔ a < b := by
  rw [Int64.lt_iff_toInt_lt, pk_lT ha, pk_lT hb]; omega
theorem pk_lLE {a b : Nat} (ha : a < 2 ^ 63) (hb : b < 2 ^ 63) : lN a ≤ lN b ↔ a ≤ b := by
  rw [Int64.le_iff_toInt_le, pk_lT ha, pk_lT hb]; omega
theorem pk_lEQ {a b : Nat} (ha : a < 2 ^ 63) (hb : b < 2 ^ 63) : lN a = lN b ↔ a = b := by
  rw [← Int64.toInt_inj, pk_lT ha, pk_lT hb]; omega
theorem pk_lOf {x : Int64} (h : ¬ x < 0) : ∃ k : Nat, k < 2 ^ 63 ∧ x = lN k := by
  rw [Int64.lt_iff_toInt_lt] at h
  have h0 : (0 : Int64).toInt = 0 := by decide
  have hx := Int64.toInt_lt x
  refine ⟨x.toInt.toNat, by omega, Int64.toInt_inj.mp ?_⟩
  rw [pk_lT (by omega)]
  omega
theorem pk_lDiv {a b : Nat} (ha : a < 2 ^ 63) (h0 : 0 < b) (hb : b < 2 ^ 63) : lN a / lN b = lN (a / b) := by
  apply Int64.toInt_inj.mp
  rw [lg_ldiv_nonneg (by rw [pk_lT ha]; omega) (by rw [pk_lT hb]; omega), pk_lT ha, pk_lT hb, pk_lT (Nat.lt_of_le_of_lt (Nat.div_le_self a b) ha)]
  rfl
theorem pk_lRem {a b : Nat} (ha : a < 2 ^ 63) (h0 : 0 < b) (hb : b < 2 ^ 63) : lN a - lN a / lN b * lN b = lN (a % b) := by
  rw [pk_lDiv ha h0 hb, lN_mul, lN_sub (Nat.div_mul_le_self a b)]
  exact congrArg lN (by have := Nat.div_add_mod' a b; omega)
theorem wb_tb (n : Nat) : (lN n).toBitVec = BitVec.ofNat 64 n := rfl
theorem wb_inj {a b : Int64} (h : a.toBitVec = b.toBitVec) : a = b := Int64.toBitVec_inj.mp h
theorem wb_tn {n : Nat} (h : n < 2 ^ 64) : (lN n).toBitVec.toNat = n := by rw [wb_tb, BitVec.toNat_ofNat, Nat.mod_eq_of_lt h]
theorem wb_of (x : Int64) : ∃ n, n < 2 ^ 64 ∧ x = lN n := ⟨x.toBitVec.toNat, x.toBitVec.isLt, wb_inj (by rw [wb_tb]; simp)⟩
theorem wb_of32 (x : Int32) : ∃ n, n < 2 ^ 32 ∧ x = nI n := ⟨x.toBitVec.toNat, x.toBitVec.isLt, Int32.toBitVec_inj.mp (by show _ = BitVec.ofNat 32 _; simp)⟩
theorem wb_c : ∀ k, k < 64 → ((nI k).toInt64 &&& 63) = lN k := by decide +kernel
theorem wb_cu : ∀ k, k < 64 → ((nI k).toInt64.toUInt64 &&& Int64.toUInt64 63) = UInt64.ofNat k := by decide +kernel
theorem wb_sm : ∀ k, k < 64 → (BitVec.ofNat 64 k).smod 64 = BitVec.ofNat 64 k := by decide +kernel
theorem wb_pw {a b : Nat} (h : a ≤ b) : 2 ^ b = 2 ^ a * 2 ^ (b - a) := by rw [← Nat.pow_add]; congr 1; omega
theorem wb_lt2 {a b : Nat} (h : a < b) : 2 ^ a < 2 ^ b := Nat.pow_lt_pow_right (by decide) h
theorem wb_mod (n : Nat) : lN n = lN (n % 2 ^ 64) := wb_inj (by rw [wb_tb, wb_tb]; apply BitVec.eq_of_toNat_eq; rw [BitVec.toNat_ofNat, BitVec.toNat_ofNat, Nat.mod_mod])
theorem wb_shr {n k : Nat} (hn : n < 2 ^ 64) (hk : k < 64) : ((lN n).toUInt64 >>> ((nI k).toInt64.toUInt64 &&& Int64.toUInt64 63)).toInt64 = lN (n / 2 ^ k) := by
  rw [wb_cu k hk]
  apply wb_inj
  apply BitVec.eq_of_toNat_eq
  show ((lN n).toUInt64 >>> UInt64.ofNat k).toNat = (BitVec.ofNat 64 _).toNat
  have h1 : (UInt64.ofNat k).toNat = k := by
    show (BitVec.ofNat 64 k).toNat = k
    rw [BitVec.toNat_ofNat, Nat.mod_eq_of_lt (by omega)]
  have h2 : (lN n).toUInt64.toNat = n := wb_tn hn
  rw [UInt64.toNat_shiftRight, h1, h2, Nat.mod_eq_of_lt hk, Nat.shiftRight_eq_div_pow, BitVec.toNat_ofNat, Nat.mod_eq_of_lt (Nat.lt_of_le_of_lt (Nat.div_le_self _ _) hn)]
/-- the remainder by 251, as it is printed -/
theorem ba_rem {x : Int32} (a : Nat) (hx : x = nI a) (ha : a < 2 ^ 31) : x - x / 251 * 251 = nI (a % 251) := by
  subst hx
  exact pk_rem (d := 251) ha (by decide) (by decide)
theorem ba_251 : ¬ (251 : Int32) = 0 := by decide
theorem ba_251L : ¬ (251 : Int64) = 0 := by decide
theorem ba_m1 {a : Nat} (h : a < 2 ^ 31) : ¬ nI a = -1 := by
  intro e
  have := congrArg Int32.toInt e
  rw [nI_toInt h] at this
  have h2 : (-1 : Int32).toInt = -1 := by decide
  omega
theorem ba_bit01 (y : Int32) : y &&& 1 = 0 ∨ y &&& 1 = 1 := by
  have h : ∀ z : BitVec 32, z &&& 1#32 = 0#32 ∨ z &&& 1#32 = 1#32 := by
    intro z
    have h1 : (z &&& 1#32).toNat < 2 := by
      rw [BitVec.toNat_and]
      exact Nat.lt_of_le_of_lt Nat.and_le_right (by decide)
    rcases Nat.lt_or_ge (z &&& 1#32).toNat 1 with h2 | h2
    · exact Or.inl (BitVec.eq_of_toNat_eq (by simp at h2 ⊢; omega))
    · exact Or.inr (BitVec.eq_of_toNat_eq (by simp at h1 h2 ⊢; omega))
  rcases h y.toBitVec with h1 | h1
  · exact Or.inl (Int32.toBitVec_inj.mp h1)
  · exact Or.inr (Int32.toBitVec_inj.mp h1)
theorem ba_nar0 : vp_nar .boolean 0 = 0 := by rfl
theorem ba_nar1 : vp_nar .boolean 1 = 1 := by rfl
theorem ba_nw0 : narrow .boolean (.int 0) = .int 0 := by rfl
theorem ba_nw1 : narrow .boolean (.int 1) = .int 1 := by rfl
end
section
/-- the sum of the first n values -/
def ma_sm (f : Nat → Nat) : Nat → Nat
  | 0 => 0
  | n + 1 => ma_sm f n + f n
theorem ma_sm_congr {f g : Nat → Nat} : ∀ {n : Nat}, (∀ i, i < n → f i = g i) → ma_sm f n = ma_sm g n := by
  intro n
  induction n with
  | zero => intro _; rfl
  | succ n ih => intro h; rw [ma_sm, ma_sm, ih (fun i hi => h i (by omega)), h n (by omega)]
theorem ma_sm_add (f g : Nat → Nat) : ∀ n, ma_sm (fun i => f i + g i) n = ma_sm f n + ma_sm g n := by
  intro n
  induction n with
  | zero => rfl
  | succ n ih => rw [ma_sm, ma_sm, ma_sm, ih]; omega
theorem ma_sm_mul (a : Nat) (f : Nat → Nat) : ∀ n, ma_sm (fun i => a * f i) n = a * ma_sm f n := by
  intro n
  induction n with
  | zero => rfl
  | succ n ih => rw [ma_sm, ma_sm, ih, Nat.mul_add]
theorem ma_sm_0 {f : Nat → Nat} : ∀ {n : Nat}, (∀ i, i < n → f i = 0) → ma_sm f n = 0 := by
  intro n
  induction n with
  | zero => intro _; rfl
  | succ n ih => intro h; rw [ma_sm, ih (fun i hi => h i (by omega)), h n (by omega)]
theorem ma_sm_mod {f g : Nat → Nat} : ∀ {n : Nat}, (∀ i, i < n → f i % 251 = g i % 251) → ma_sm f n % 251 = ma_sm g n % 251 := by
  intro n
  induction n with
  | zero => intro _; rfl
  | succ n ih =>
    intro h
    have h1 := ih (fun i hi => h i (by omega))
    have h2 := h n (by omega)
    rw [ma_sm, ma_sm, Nat.add_mod, h1, h2, ← Nat.add_mod]
theorem ma_sm_one (F : Nat → Nat) (x : Nat) : ∀ n, ma_sm (fun c => if c = x then F c else 0) n = if x < n then F x else 0 := by
  intro n
  induction n with
  | zero => rfl
  | succ n ih =>
    rw [ma_sm, ih]
    by_cases h : n = x
    · subst h
      rw [if_neg (by omega), if_pos rfl, if_pos (by omega)]; omega
    · rw [if_neg h]
      by_cases h2 : x < n
      · rw [if_pos h2, if_pos (by omega)]; omega
      · rw [if_neg h2, if_neg (by omega)]
theorem ma_sm_swap (f : Nat → Nat → Nat) (m : Nat) : ∀ n, ma_sm (fun i => ma_sm (fun j => f i j) m) n = ma_sm (fun j => ma_sm (fun i => f i j) n) m := by
  intro n
  induction n with
  | zero => exact (ma_sm_0 (fun i _ => rfl)).symm
  | succ n ih =>
    rw [ma_sm, ih, ← ma_sm_add]
    exact ma_sm_congr (fun i _ => rfl)
theorem ma_sm_rev (f : Nat → Nat) : ∀ n, ma_sm (fun j => f (n - 1 - j)) n = ma_sm f n := by
  have h0 : ∀ n (g : Nat → Nat), ma_sm g (n + 1) = g 0 + ma_sm (fun i => g (i + 1)) n := by
    intro n
    induction n with
    | zero => intro g; show 0 + g 0 = g 0 + 0; omega
    | succ n ih => intro g; rw [ma_sm, ih g, ma_sm]; omega
  intro n
  induction n with
  | zero => rfl
  | succ n ih =>
    rw [h0]
    have : ma_sm (fun i => f (n + 1 - 1 - (i + 1))) n = ma_sm (fun j => f (n - 1 - j)) n := ma_sm_congr (fun i _ => by
      show f _ = f _
      congr 1; omega)
    rw [this, ih, ma_sm]
    show f (n + 1 - 1 - 0) + _ = _
    rw [show n + 1 - 1 - 0 = n by omega]; omega
/-- a sum over marked places is a sum over the children -/
theorem ma_sm_ch {pr : Nat → Int32} {y : Int32} {ch : Nat → Nat} {N t : Nat} (F : Nat → Nat) (hlt : ∀ j, j < N → ch j < t) (hpr : ∀ j, j < N → pr (ch j) = y) (hin : ∀ i j, i < N → j < N → ch i = ch j → i = j) (hco : ∀ c, c < t → pr c = y → ∃ j, j < N ∧ c = ch j) :
    ma_sm (fun c => if pr c = y then F c else 0) t = ma_sm (fun j => F (ch j)) N := by
  have h1 : ma_sm (fun c => if pr c = y then F c else 0) t = ma_sm (fun c => ma_sm (fun j => if c = ch j then F c else 0) N) t := by
    refine ma_sm_congr (fun c hc => ?_)
    show (if pr c = y then F c else 0) = _
    by_cases hp : pr c = y
    · rw [if_pos hp]
      obtain ⟨j0, hj0, e0⟩ := hco c hc hp
      have : ma_sm (fun j => if c = ch j then F c else 0) N = ma_sm (fun j => if j = j0 then F c else 0) N := by
        refine ma_sm_congr (fun j hj => ?_)
        show (if c = ch j then F c else 0) = if j = j0 then F c else 0
        by_cases h : j = j0
        · rw [if_pos h, if_pos (by rw [h]; exact e0)]
        · rw [if_neg h, if_neg (fun h2 => h (hin j j0 hj hj0 (h2.symm.trans e0)))]
      rw [this, ma_sm_one (fun _ => F c) j0 N, if_pos hj0]
    · rw [if_neg hp]
      refine (ma_sm_0 (fun j hj => ?_)).symm
      show (if c = ch j then F c else 0) = 0
      rw [if_neg (fun h => hp (by rw [h]; exact hpr j hj))]
  rw [h1, ma_sm_swap (fun c j => if c = ch j then F c else 0)]
  refine ma_sm_congr (fun j hj => ?_)
  show ma_sm (fun c => if c = ch j then F c else 0) t = _
  rw [ma_sm_one F (ch j) t, if_pos (hlt j hj)]
/-! the stack of a word in postfix order: K the thresholds (0: a leaf), N the parties or numbers of children -/
def ma_ar (K N : Nat → Nat) (i : Nat) : Nat := if K i = 0 then 0 else N i
def ma_hh (K N : Nat → Nat) : Nat → Nat
  | 0 => 0
  | i + 1 => ma_hh K N i - ma_ar K N i + 1
def ma_sk (K N : Nat → Nat) : Nat → Nat → Nat
  | 0 => fun _ => 0
  | i + 1 => fun p => if p = ma_hh K N i - ma_ar K N i then i else ma_sk K N i p
def ma_ch (K N : Nat → Nat) (t j : Nat) : Nat := ma_sk K N t (ma_hh K N t - N t + j)
def ma_wf (K N : Nat → Nat) (m : Nat) : Prop := ∀ i, i < m → (K i = 0 → N i < 8 ∧ ma_hh K N i < 6) ∧ (0 < K i → K i ≤ N i ∧ N i ≤ 5 ∧ N i ≤ ma_hh K N i)
theorem ma_hh_le {K N : Nat → Nat} {m : Nat} (h : ma_wf K N m) : ∀ i, i ≤ m → ma_hh K N i ≤ 6 := by
  intro i
  induction i with
  | zero => intro _; show 0 ≤ 6; omega
  | succ i ih =>
    intro hi
    have h1 := ih (by omega)
    have h2 := h i (by omega)
    rw [ma_hh, ma_ar]
    by_cases hk : K i = 0
    · have := h2.1 hk
      rw [if_pos hk]; omega
    · have := h2.2 (by omega)
      rw [if_neg hk]; omega
theorem ma_ar_le {K N : Nat → Nat} {m : Nat} (h : ma_wf K N m) {i : Nat} (hi : i < m) : ma_ar K N i ≤ ma_hh K N i := by
  rw [ma_ar]
  by_cases hk : K i = 0
  · rw [if_pos hk]; omega
  · rw [if_neg hk]; exact ((h i hi).2 (by omega)).2.2
theorem ma_sk_lt {K N : Nat → Nat} {m : Nat} (h : ma_wf K N m) : ∀ i, i ≤ m → ∀ p, p < ma_hh K N i → ma_sk K N i p < i := by
  intro i
  induction i with
  | zero => intro _ p hp; exact absurd hp (Nat.not_lt_zero _)
  | succ i ih =>
    intro hi p hp
    have ha := ma_ar_le h (i := i) (by omega)
    rw [ma_hh] at hp
    show (if p = ma_hh K N i - ma_ar K N i then i else ma_sk K N i p) < i + 1
    by_cases e : p = ma_hh K N i - ma_ar K N i
    · rw [if_pos e]; omega
    · rw [if_neg e]
      have := ih (by omega) p (by omega)
      omega
theorem ma_sk_mono {K N : Nat → Nat} {m : Nat} (h : ma_wf K N m) : ∀ i, i ≤ m → ∀ p q, p < q → q < ma_hh K N i → ma_sk K N i p < ma_sk K N i q := by
  intro i
  induction i with
  | zero => intro _ p q _ hp; exact absurd hp (Nat.not_lt_zero _)
  | succ i ih =>
    intro hi p q hpq hq
    have ha := ma_ar_le h (i := i) (by omega)
    rw [ma_hh] at hq
    show (if p = ma_hh K N i - ma_ar K N i then i else ma_sk K N i p) < (if q = ma_hh K N i - ma_ar K N i then i else ma_sk K N i q)
    rw [if_neg (by omega)]
    by_cases e : q = ma_hh K N i - ma_ar K N i
    · rw [if_pos e]; exact ma_sk_lt h i (by omega) p (by omega)
    · rw [if_neg e]; exact ih (by omega) p q hpq (by omega)
theorem ma_sk_inj {K N : Nat → Nat} {m : Nat} (h : ma_wf K N m) {i : Nat} (hi : i ≤ m) {p q : Nat} (hp : p < ma_hh K N i) (hq : q < ma_hh K N i) (e : ma_sk K N i p = ma_sk K N i q) : p = q := by
  rcases Nat.lt_trichotomy p q with z | z | z
  · have := ma_sk_mono h i hi p q z hq; omega
  · exact z
  · have := ma_sk_mono h i hi q p z hp; omega
theorem ma_ch_lt {K N : Nat → Nat} {m : Nat} (h : ma_wf K N m) {t : Nat} (ht : t < m) (hk : 0 < K t) {j : Nat} (hj : j < N t) : ma_ch K N t j < t := by
  have := (h t ht).2 hk
  exact ma_sk_lt h t (by omega) _ (by omega)
theorem ma_ch_inj {K N : Nat → Nat} {m : Nat} (h : ma_wf K N m) {t : Nat} (ht : t < m) (hk : 0 < K t) {i j : Nat} (hi : i < N t) (hj : j < N t) (e : ma_ch K N t i = ma_ch K N t j) : i = j := by
  have := (h t ht).2 hk
  have := ma_sk_inj h (i := t) (by omega) (p := ma_hh K N t - N t + i) (q := ma_hh K N t - N t + j) (by omega) (by omega) e
  omega
theorem ma_cover {K N : Nat → Nat} {m : Nat} (h : ma_wf K N m) : ∀ i, i ≤ m → ∀ c, c < i → (∃ p, p < ma_hh K N i ∧ c = ma_sk K N i p) ∨ (∃ t, t < i ∧ 0 < K t ∧ ∃ j, j < N t ∧ c = ma_ch K N t j) := by
  intro i
  induction i with
  | zero => intro _ c hc; exact absurd hc (Nat.not_lt_zero _)
  | succ i ih =>
    intro hi c hc
    have ha := ma_ar_le h (i := i) (by omega)
    by_cases e : c = i
    · refine Or.inl ⟨ma_hh K N i - ma_ar K N i, by rw [ma_hh]; omega, ?_⟩
      show c = if _ then i else _
      rw [if_pos rfl]; exact e
    · rcases ih (by omega) c (by omega) with ⟨p, hp, ep⟩ | ⟨t, ht, hk, j, hj, ej⟩
      · by_cases hp2 : p < ma_hh K N i - ma_ar K N i
        · refine Or.inl ⟨p, by rw [ma_hh]; omega, ?_⟩
          show c = if p = ma_hh K N i - ma_ar K N i then i else _
          rw [if_neg (by omega)]; exact ep
        · by_cases hk : K i = 0
          · have : ma_ar K N i = 0 := by rw [ma_ar, if_pos hk]
            omega
          · have har : ma_ar K N i = N i := by rw [ma_ar, if_neg hk]
            refine Or.inr ⟨i, by omega, by omega, p - (ma_hh K N i - N i), by omega, ?_⟩
            rw [ma_ch, show ma_hh K N i - N i + (p - (ma_hh K N i - N i)) = p by omega]
            exact ep
      · exact Or.inr ⟨t, by omega, hk, j, hj, ej⟩
/-- only the values below count -/
theorem ma_hs_congr {K N K' N' : Nat → Nat} : ∀ i, (∀ c, c < i → K c = K' c ∧ N c = N' c) → ma_hh K N i = ma_hh K' N' i ∧ ma_sk K N i = ma_sk K' N' i := by
  intro i
  induction i with
  | zero => intro _; exact ⟨rfl, rfl⟩
  | succ i ih =>
    intro h
    obtain ⟨h1, h2⟩ := ih (fun c hc => h c (by omega))
    obtain ⟨h3, h4⟩ := h i (by omega)
    have h5 : ma_ar K N i = ma_ar K' N' i := by rw [ma_ar, ma_ar, h3, h4]
    refine ⟨by rw [ma_hh, ma_hh, h1, h5], ?_⟩
    rw [ma_sk, ma_sk, h1, h2, h5]
end
section
/-! fulfilment -/
def ma_b (mask : Int32) (x : Nat) : Nat := if ((mask >>> (nI x &&& 31)) &&& 1) = 1 then 1 else 0
def ma_vl (K N : Nat → Nat) (b f : Nat → Nat) (i : Nat) : Nat := if K i = 0 then b (N i) else if K i ≤ ma_sm (fun j => f (ma_ch K N i j)) (N i) then 1 else 0
def ma_fl (K N b : Nat → Nat) : Nat → Nat → Nat
  | 0 => fun _ => 0
  | i + 1 => fun c => if c = i then ma_vl K N b (ma_fl K N b i) i else ma_fl K N b i c
def ma_F (K N b : Nat → Nat) (c : Nat) : Nat := ma_fl K N b (c + 1) c
theorem ma_fl_F (K N b : Nat → Nat) : ∀ i c, c < i → ma_fl K N b i c = ma_F K N b c := by
  intro i
  induction i with
  | zero => intro c hc; exact absurd hc (Nat.not_lt_zero _)
  | succ i ih =>
    intro c hc
    by_cases e : c = i
    · rw [e, ma_F]
    · rw [← ih c (by omega), ma_fl]
      exact if_neg e
theorem ma_F_eq {K N : Nat → Nat} {m : Nat} (h : ma_wf K N m) (b : Nat → Nat) {i : Nat} (hi : i < m) : ma_F K N b i = ma_vl K N b (ma_F K N b) i := by
  have e : ma_F K N b i = ma_vl K N b (ma_fl K N b i) i := if_pos rfl
  rw [e, ma_vl, ma_vl]
  by_cases hk : K i = 0
  · rw [if_pos hk, if_pos hk]
  · rw [if_neg hk, if_neg hk]
    have : ma_sm (fun j => ma_fl K N b i (ma_ch K N i j)) (N i) = ma_sm (fun j => ma_F K N b (ma_ch K N i j)) (N i) := ma_sm_congr (fun j hj => ma_fl_F K N b i _ (ma_ch_lt h hi (by omega) hj))
    rw [this]
theorem ma_b01 (mask : Int32) (x : Nat) : ma_b mask x ≤ 1 := by
  rw [ma_b]; split <;> omega
theorem ma_F01 {K N : Nat → Nat} {m : Nat} (h : ma_wf K N m) (mask : Int32) {i : Nat} (hi : i < m) : ma_F K N (ma_b mask) i ≤ 1 := by
  rw [ma_F_eq h _ hi, ma_vl]
  split
  · exact ma_b01 _ _
  · split <;> omega
/-! the numbers at the nodes -/
def ma_po (a : Nat → Nat) (k x : Nat) : Nat := ma_sm (fun d => a d * x ^ d) k
def ma_Gd (K N : Nat → Nat) (s : Nat) (val : Nat → Nat) (c : Nat) : Prop := val (s - 1) % 251 = c % 251 ∧ ∀ t, t < s → 0 < K t → ∃ a : Nat → Nat, a 0 % 251 = val t % 251 ∧ ∀ j, j < N t → val (ma_ch K N t j) % 251 = ma_po a (K t) (j + 1) % 251
theorem ma_am {a b c d : Nat} (h1 : a % 251 = b % 251) (h2 : c % 251 = d % 251) : (a + c) % 251 = (b + d) % 251 := by
  rw [Nat.add_mod, h1, h2, ← Nat.add_mod]
theorem ma_mm {a b c d : Nat} (h1 : a % 251 = b % 251) (h2 : c % 251 = d % 251) : (a * c) % 251 = (b * d) % 251 := by
  rw [Nat.mul_mod, h1, h2, ← Nat.mul_mod]
theorem ma_Gd_0 (K N : Nat → Nat) (s : Nat) : ma_Gd K N s (fun _ => 0) 0 :=
  ⟨rfl, fun t _ _ => ⟨fun _ => 0, rfl, fun j _ => by
    show 0 % 251 = ma_sm (fun d => 0 * (j + 1) ^ d) (K t) % 251
    rw [ma_sm_0 (fun d _ => Nat.zero_mul _)]⟩⟩
theorem ma_Gd_add {K N : Nat → Nat} {s : Nat} {v w : Nat → Nat} {c d : Nat} (h1 : ma_Gd K N s v c) (h2 : ma_Gd K N s w d) : ma_Gd K N s (fun i => v i + w i) (c + d) := by
  refine ⟨ma_am h1.1 h2.1, fun t ht hk => ?_⟩
  obtain ⟨a, a0, ha⟩ := h1.2 t ht hk
  obtain ⟨b, b0, hb⟩ := h2.2 t ht hk
  refine ⟨fun i => a i + b i, ma_am a0 b0, fun j hj => ?_⟩
  have e : ma_po (fun i => a i + b i) (K t) (j + 1) = ma_po a (K t) (j + 1) + ma_po b (K t) (j + 1) := by
    rw [ma_po, ma_po, ma_po, ← ma_sm_add]
    exact ma_sm_congr (fun i _ => Nat.add_mul _ _ _)
  rw [e]
  exact ma_am (ha j hj) (hb j hj)
theorem ma_Gd_mul {K N : Nat → Nat} {s : Nat} {v : Nat → Nat} {c : Nat} (f : Nat) (h1 : ma_Gd K N s v c) : ma_Gd K N s (fun i => f * v i) (f * c) := by
  refine ⟨ma_mm rfl h1.1, fun t ht hk => ?_⟩
  obtain ⟨a, a0, ha⟩ := h1.2 t ht hk
  refine ⟨fun i => f * a i, ma_mm rfl a0, fun j hj => ?_⟩
  have e : ma_po (fun i => f * a i) (K t) (j + 1) = f * ma_po a (K t) (j + 1) := by
    rw [ma_po, ma_po, ← ma_sm_mul]
    exact ma_sm_congr (fun i _ => Nat.mul_assoc _ _ _)
  rw [e]
  exact ma_mm rfl (ha j hj)
theorem ma_Gd_c {K N : Nat → Nat} {s : Nat} {v : Nat → Nat} {c d : Nat} (h : ma_Gd K N s v c) (e : c % 251 = d % 251) : ma_Gd K N s v d := ⟨h.1.trans e, h.2⟩
/-! Lagrange: C the chosen places as bits -/
def lz_has (C x : Nat) : Bool := C / 2 ^ x % 2 == 1
def lz_lp (C x : Nat) : Nat → Nat → Nat → Nat → Nat
  | 0, _, ab, be => ab * (be ^ 249 % 251) % 251
  | d + 1, o, ab, be => if o = x then lz_lp C x d (o + 1) ab be else if lz_has C o then lz_lp C x d (o + 1) (ab * o % 251) (be * (o + 251 - x) % 251) else lz_lp C x d (o + 1) ab be
def lz_w (C x : Nat) : Nat := if lz_has C x then lz_lp C x 5 1 1 1 else 0
def lz_pc (C : Nat) : Nat := ma_sm (fun j => if lz_has C (j + 1) then 1 else 0) 5
theorem lz_tab : ∀ C, C < 64 → ∀ d, d < 5 → d < lz_pc C → ma_sm (fun j => lz_w C (j + 1) * (j + 1) ^ d) 5 % 251 = if d = 0 then 1 else 0 := by decide +kernel
theorem lz_wlt : ∀ C, C < 64 → ∀ x, x < 6 → lz_w C x < 251 := by decide +kernel
theorem lz_pc5 : ∀ C, C < 64 → lz_pc C ≤ 5 := by decide +kernel
theorem lz_or : ∀ C, C < 64 → ∀ j, j < 5 → lz_has C (j + 1) = false → lz_pc (C ||| 2 ^ (j + 1)) = lz_pc C + 1 := by decide +kernel
theorem lz_or2 : ∀ C, C < 64 → ∀ j, j < 5 → ∀ i, i < 5 → lz_has (C ||| 2 ^ (j + 1)) (i + 1) = (lz_has C (i + 1) || (i == j)) := by decide +kernel
theorem lz_orI : ∀ C, C < 64 → ∀ j, j < 5 → nI C ||| ((1 : Int32) <<< (nI (j + 1) &&& 31)) = nI (C ||| 2 ^ (j + 1)) ∧ C ||| 2 ^ (j + 1) < 64 := by decide +kernel
theorem lz_hasI : ∀ C, C < 64 → ∀ x, x < 6 → ((nI C >>> (nI x &&& 31)) &&& 1 = 1 ↔ lz_has C x = true) := by decide +kernel
theorem lz_main (a : Nat → Nat) {C k : Nat} (hC : C < 64) (hk : lz_pc C = k) (h0 : 0 < k) : ma_sm (fun j => lz_w C (j + 1) * ma_po a k (j + 1)) 5 % 251 = a 0 % 251 := by
  have h5 : k ≤ 5 := hk ▸ lz_pc5 C hC
  have e1 : ma_sm (fun j => lz_w C (j + 1) * ma_po a k (j + 1)) 5 = ma_sm (fun d => a d * ma_sm (fun j => lz_w C (j + 1) * (j + 1) ^ d) 5) k := by
    have : ma_sm (fun j => lz_w C (j + 1) * ma_po a k (j + 1)) 5 = ma_sm (fun j => ma_sm (fun d => a d * (lz_w C (j + 1) * (j + 1) ^ d)) k) 5 := by
      refine ma_sm_congr (fun j _ => ?_)
      show lz_w C (j + 1) * ma_sm _ k = _
      rw [← ma_sm_mul]
      refine ma_sm_congr (fun d _ => ?_)
      show lz_w C (j + 1) * (a d * (j + 1) ^ d) = a d * (lz_w C (j + 1) * (j + 1) ^ d)
      rw [Nat.mul_left_comm]
    rw [this, ma_sm_swap (fun j d => a d * (lz_w C (j + 1) * (j + 1) ^ d))]
    exact ma_sm_congr (fun d _ => ma_sm_mul _ _ _)
  rw [e1]
  have e2 : ma_sm (fun d => a d * ma_sm (fun j => lz_w C (j + 1) * (j + 1) ^ d) 5) k % 251 = ma_sm (fun d => if d = 0 then a d else 0) k % 251 := by
    refine ma_sm_mod (fun d hd => ?_)
    show (a d * _) % 251 = _
    rw [Nat.mul_mod, lz_tab C hC d (by omega) (by omega)]
    by_cases h : d = 0
    · rw [if_pos h, if_pos h]
      show a d % 251 * 1 % 251 = _
      rw [Nat.mul_one, Nat.mod_mod]
    · rw [if_neg h, if_neg h]; rfl
  rw [e2, ma_sm_one a 0 k, if_pos h0]
end
section
/-! the small methods of X -/
section SM
variable {m h s : Int32} {rnd : Int64} {pa th pr pl st sh de we fu : Nat → Int32}
theorem sw_isSecret {post : Int32 → Prop} {p : Int32} (h0 : p < 0 → post 0) (h1 : ∀ c, c < 251 → p = nI c → post 1) (h2 : (251 : Int32) ≤ p → post 0) : wpX_isSecret post p := by
  refine br_c h0 (fun a => br_c h2 (fun b => ?_))
  obtain ⟨j, hj, rfl⟩ := nI_of a
  refine h1 j ?_ rfl
  rcases Nat.lt_or_ge j 251 with z | z
  · exact z
  · exact absurd (nI_le (a := 251) z hj) b
theorem sw_isLeaf {post : Int32 → Prop} {i : Nat} (hi : i < 24) (h0 : pa i = -1 → post 0) (h1 : ¬ pa i = -1 → post 1) : wpX_isLeaf post (m, h, s, rnd, pa, th, pr, pl, st, sh, de, we, fu) (nI i) := by
  refine And.intro (vp_in_nI hi (by decide)) ?_
  rw [nI_clamp (show i < 2 ^ 31 by omega)]
  exact ⟨h0, h1⟩
theorem sw_has {post : Int32 → Prop} {a b : Int32} (h1 : ((a >>> (b &&& 31)) &&& 1) = 1 → post 1) (h0 : ¬ ((a >>> (b &&& 31)) &&& 1) = 1 → post 0) : wpX_has post a b := ⟨h1, h0⟩
theorem sw_draw {post : Int32 → SX → Prop} (H : ∀ a r, a < 251 → post (nI a) (m, h, s, r, pa, th, pr, pl, st, sh, de, we, fu)) : wpX_drawNumber post (m, h, s, rnd, pa, th, pr, pl, st, sh, de, we, fu) := by
  refine nm_e ?_
  refine nm_e ?_
  refine nm_e ?_
  intro z _
  refine And.intro ba_251L ?_
  obtain ⟨n, hn, rfl⟩ := wb_of z
  have e := wb_shr (k := 1) hn (by decide)
  have e2 : ((lN n).toUInt64 >>> ((1 : Int32).toInt64.toUInt64 &&& Int64.toUInt64 63)).toInt64 = lN (n / 2) := e
  rw [e2]
  have e3 : lN (n / 2) - lN (n / 2) / 251 * 251 = lN (n / 2 % 251) := pk_lRem (b := 251) (by omega) (by decide) (by decide)
  rw [e3, lN_i]
  exact H _ _ (Nat.mod_lt _ (by decide))
theorem sw_power4 {post : Int32 → Prop} {b e : Nat} (hb : b < 251) (he : e < 1000) : ∀ d i v, i + d = e → v < 251 → post (nI (v * b ^ d % 251)) → wX_power_4 post (nI b) (nI e) (d + 1) (nI v) (nI i) := by
  intro d
  induction d with
  | zero =>
    intro i v hi hv hp
    refine br_t (nI_le (by omega) (by omega)) ?_
    rw [Nat.pow_zero, Nat.mul_one, Nat.mod_eq_of_lt hv] at hp
    exact hp
  | succ d ih =>
    intro i v hi hv hp
    have hm : v * b < 251 * 251 := Nat.mul_lt_mul'' hv hb
    refine br_f (nI_ge (by omega) (by omega)) (And.intro ba_251 ?_)
    refine nm_r (ba_rem (v * b) (pk_mul v b) (by omega)) (nm_r (nI_1 i) ?_)
    refine ih (i + 1) (v * b % 251) (by omega) (Nat.mod_lt _ (by decide)) ?_
    have : v * b % 251 * b ^ d % 251 = v * b ^ (d + 1) % 251 := by
      rw [Nat.mul_mod, Nat.mod_mod, ← Nat.mul_mod, Nat.pow_succ]
      congr 1
      rw [Nat.mul_assoc, Nat.mul_comm b]
    rw [this]
    exact hp
theorem sw_power {post : Int32 → Prop} {b e : Nat} (hb : b < 251) (he : e < 1000) (hp : post (nI (b ^ e % 251))) : wpX_power post (nI b) (nI e) := by
  refine Exists.intro (e + 1) ?_
  refine sw_power4 hb he e 0 1 (by omega) (by decide) ?_
  rw [Nat.one_mul]; exact hp
/-- the size of a set: both sides alike -/
def sz_p (x : Int32) : Nat → Nat → Int32 → Int32
  | 0, _, v => v
  | d + 1, i, v => sz_p x d (i + 1) (v + ((x >>> (nI i &&& 31)) &&& 1))
theorem sw_size4 {post : Int32 → Prop} {x : Int32} : ∀ d i v, i + d = 8 → post (sz_p x d i v) → wX_sizeOf_4 post x (d + 1) v (nI i) := by
  intro d
  induction d with
  | zero =>
    intro i v hi hp
    exact br_t (nI_le (a := 8) (by omega) (by omega)) hp
  | succ d ih =>
    intro i v hi hp
    refine br_f (nI_ge (b := 8) (by omega) (by omega)) (sw_has (fun h1 => ?_) (fun h0 => ?_))
    · refine br_f (by decide) (nm_e (nm_r (nI_1 i) (ih (i + 1) _ (by omega) ?_)))
      rw [sz_p, h1] at hp
      exact hp
    · have h2 := (ba_bit01 (x >>> (nI i &&& 31))).resolve_right h0
      refine br_t rfl (nm_r (nI_1 i) (ih (i + 1) _ (by omega) ?_))
      rw [sz_p, h2, Int32.add_zero] at hp
      exact hp
theorem sw_size {post : Int32 → Prop} {x : Int32} (hp : post (sz_p x 8 0 0)) : wpX_sizeOf post x := Exists.intro 9 (sw_size4 8 0 0 (by omega) hp)
/-- pushNode -/
theorem sw_push {post : SX → Prop} {M H : Nat} {p q : Int32} (hM : M < 24) (hH : H < 6) (hp : post (nI (M + 1), nI (H + 1), s, rnd, upd pa M p, upd th M q, upd pr M (-1), upd pl M (-1), upd st H (nI M), sh, de, we, fu)) : wpX_pushNode post (nI M, nI H, s, rnd, pa, th, pr, pl, st, sh, de, we, fu) p q := by
  have i1 : vp_in (nI M) 24 := vp_in_nI hM (by decide)
  have i2 : vp_in (nI H) 6 := vp_in_nI hH (by decide)
  have e1 := nI_clamp (show M < 2 ^ 31 by omega)
  have e2 := nI_clamp (show H < 2 ^ 31 by omega)
  refine And.intro i1 (nm_r (e' := upd pa M p) (by rw [e1]) ?_)
  refine And.intro i1 (nm_r (e' := upd th M q) (by rw [e1]) ?_)
  refine And.intro i1 (nm_r (e' := upd pr M (-1)) (by rw [e1]) ?_)
  refine And.intro i1 (nm_r (e' := upd pl M (-1)) (by rw [e1]) ?_)
  refine And.intro i2 (nm_r (e' := upd st H (nI M)) (by rw [e2]) ?_)
  exact nm_r (nI_1 M) (nm_r (nI_1 H) hp)
/-- forgetShares -/
theorem sw_forget7 {post : SX → Prop} (hp : ∀ sh', (∀ i, i < 24 → sh' i = 0) → post (m, h, s, rnd, pa, th, pr, pl, st, sh', de, we, fu)) : ∀ d i sh1, i + d = 24 → (∀ j, j < i → sh1 j = 0) → wX_forgetShares_7 post m h s rnd (d + 1) (nI i) pa th pr pl st sh1 de we fu := by
  intro d
  induction d with
  | zero =>
    intro i sh1 hi hz
    exact br_t (nI_le (a := 24) (by omega) (by omega)) (hp sh1 (fun j hj => hz j (by omega)))
  | succ d ih =>
    intro i sh1 hi hz
    refine br_f (nI_ge (b := 24) (by omega) (by omega)) (And.intro (vp_in_nI (by omega) (by decide)) ?_)
    refine nm_r (e' := upd sh1 i 0) (by rw [nI_clamp (show i < 2 ^ 31 by omega)]) (nm_r (nI_1 i) ?_)
    refine ih (i + 1) _ (by omega) (fun j hj => ?_)
    by_cases e : j = i
    · rw [e]; exact pk_us
    · rw [pk_un e]; exact hz j (by omega)
theorem sw_forget {post : SX → Prop} (hp : ∀ sh', (∀ i, i < 24 → sh' i = 0) → post (m, h, 0, rnd, pa, th, pr, pl, st, sh', de, we, fu)) : wpX_forgetShares post (m, h, s, rnd, pa, th, pr, pl, st, sh, de, we, fu) :=
  Exists.intro 25 (sw_forget7 hp 24 0 sh (by omega) (fun j hj => absurd hj (Nat.not_lt_zero _)))
/-- takeChildren: sk the stack's content, H the height below the children -/
theorem sw_take12 {post : SX → Prop} {n H M : Nat} {sk : Nat → Nat} (hH : H + n ≤ 6) (hst : ∀ p, p < H + n → st p = nI (sk p) ∧ sk p < 24) (hinj : ∀ p q, p < H + n → q < H + n → sk p = sk q → p = q)
    (hp : ∀ pr' pl', (∀ j, j < n → pr' (sk (H + j)) = nI M ∧ pl' (sk (H + j)) = nI (j + 1)) → (∀ c, (∀ j, j < n → c ≠ sk (H + j)) → pr' c = pr c ∧ pl' c = pl c) → post (nI M, nI H, s, rnd, pa, th, pr', pl', st, sh, de, we, fu)) :
    ∀ d i pr1 pl1, i + d = n → (∀ j, j < i → pr1 (sk (H + j)) = nI M ∧ pl1 (sk (H + j)) = nI (j + 1)) → (∀ c, (∀ j, j < i → c ≠ sk (H + j)) → pr1 c = pr c ∧ pl1 c = pl c) → wX_takeChildren_12 post (nI n) (nI M) (nI H) s rnd (d + 1) (nI i) pa th pr1 pl1 st sh de we fu := by
  intro d
  induction d with
  | zero =>
    intro i pr1 pl1 hi h1 h2
    have : i = n := by omega
    subst this
    exact br_t (nI_le (by omega) (by omega)) (hp pr1 pl1 h1 h2)
  | succ d ih =>
    intro i pr1 pl1 hi h1 h2
    obtain ⟨e1, e2⟩ := hst (H + i) (by omega)
    have ec := nI_clamp (show sk (H + i) < 2 ^ 31 by omega)
    have iv : vp_in (nI (sk (H + i))) 24 := vp_in_nI e2 (by decide)
    refine br_f (nI_ge (by omega) (by omega)) ?_
    rw [nI_add]
    refine And.intro (vp_in_nI (by omega) (by decide)) ?_
    rw [nI_clamp (show H + i < 2 ^ 31 by omega), e1]
    refine nm_e ?_
    refine And.intro iv (nm_r (e' := upd pr1 (sk (H + i)) (nI M)) (by rw [ec]) ?_)
    refine And.intro iv (nm_r (e' := upd pl1 (sk (H + i)) (nI (i + 1))) (by rw [ec, nI_1]) ?_)
    refine nm_r (nI_1 i) ?_
    refine ih (i + 1) _ _ (by omega) (fun j hj => ?_) (fun c hc => ?_)
    · by_cases e : j = i
      · rw [e]; exact ⟨pk_us, pk_us⟩
      · have hne : sk (H + j) ≠ sk (H + i) := fun z => e (by have := hinj _ _ (by omega) (by omega) z; omega)
        rw [pk_un hne, pk_un hne]; exact h1 j (by omega)
    · have hne : c ≠ sk (H + i) := hc i (by omega)
      rw [pk_un hne, pk_un hne]; exact h2 c (fun j hj => hc j (by omega))
theorem sw_take {post : SX → Prop} {n H M : Nat} {sk : Nat → Nat} (hH : H + n ≤ 6) (hst : ∀ p, p < H + n → st p = nI (sk p) ∧ sk p < 24) (hinj : ∀ p q, p < H + n → q < H + n → sk p = sk q → p = q)
    (hp : ∀ pr' pl', (∀ j, j < n → pr' (sk (H + j)) = nI M ∧ pl' (sk (H + j)) = nI (j + 1)) → (∀ c, (∀ j, j < n → c ≠ sk (H + j)) → pr' c = pr c ∧ pl' c = pl c) → post (nI M, nI H, s, rnd, pa, th, pr', pl', st, sh, de, we, fu)) :
    wpX_takeChildren post (nI M, nI (H + n), s, rnd, pa, th, pr, pl, st, sh, de, we, fu) (nI n) := by
  refine nm_r (e' := nI H) (by rw [pk_sub (by omega)]; congr 1; omega) ?_
  exact Exists.intro (n + 1) (sw_take12 hH hst hinj hp n 0 pr pl (by omega) (fun j hj => absurd hj (Nat.not_lt_zero _)) (fun c _ => ⟨rfl, rfl⟩))
end SM
end
section
/-! fulfils, on both sides -/
def fm_ok (K N : Nat → Nat) (s : Nat) (pa th pr pl : Nat → Int32) : Prop :=
  s ≤ 24 ∧ ma_wf K N s ∧ (∀ i, i < s → K i = 0 → pa i = nI (N i)) ∧ (∀ i, i < s → 0 < K i → pa i = -1 ∧ th i = nI (K i)) ∧
  (∀ t, t < s → 0 < K t → ∀ j, j < N t → pr (ma_ch K N t j) = nI t ∧ pl (ma_ch K N t j) = nI (j + 1)) ∧
  (∀ t, t < s → 0 < K t → ∀ c, c < t → pr c = nI t → ∃ j, j < N t ∧ c = ma_ch K N t j)
theorem fm_wf {K N : Nat → Nat} {s : Nat} {pa th pr pl : Nat → Int32} (h : fm_ok K N s pa th pr pl) : ma_wf K N s := h.2.1
/-- a sum over the children, as the class walks them -/
theorem fm_sum {K N : Nat → Nat} {s : Nat} {pa th pr pl : Nat → Int32} (h : fm_ok K N s pa th pr pl) {t : Nat} (ht : t < s) (hk : 0 < K t) (F : Nat → Nat) :
    ma_sm (fun c => if pr c = nI t then F c else 0) t = ma_sm (fun j => F (ma_ch K N t j)) (N t) :=
  ma_sm_ch F (fun j hj => ma_ch_lt h.2.1 ht hk hj) (fun j hj => (h.2.2.2.2.1 t ht hk j hj).1) (fun i j hi hj e => ma_ch_inj h.2.1 ht hk hi hj e) (fun c hc e => h.2.2.2.2.2 t ht hk c hc e)
/-- the top of a whole formula -/
theorem fm_top {K N : Nat → Nat} {s : Nat} (h1 : ma_hh K N s = 1) (h0 : 0 < s) : ma_sk K N s 0 = s - 1 := by
  obtain ⟨i, rfl⟩ : ∃ i, s = i + 1 := ⟨s - 1, by omega⟩
  rw [ma_hh] at h1
  show (if 0 = ma_hh K N i - ma_ar K N i then i else _) = _
  rw [if_pos (by omega)]; omega
/-- each node but the top has a gate above it -/
theorem fm_par {K N : Nat → Nat} {s : Nat} {pa th pr pl : Nat → Int32} (h : fm_ok K N s pa th pr pl) (h1 : ma_hh K N s = 1) {c : Nat} (hc : c < s) : c = s - 1 ∨ ∃ t, c < t ∧ t < s ∧ 0 < K t ∧ ∃ j, j < N t ∧ c = ma_ch K N t j ∧ pr c = nI t ∧ pl c = nI (j + 1) := by
  rcases ma_cover h.2.1 s (Nat.le_refl _) c hc with ⟨p, hp, e⟩ | ⟨t, ht, hk, j, hj, e⟩
  · rw [h1] at hp
    rw [show p = 0 by omega, fm_top h1 (by omega)] at e
    exact Or.inl e
  · have h2 := h.2.2.2.2.1 t ht hk j hj
    rw [← e] at h2
    exact Or.inr ⟨t, by rw [e]; exact ma_ch_lt h.2.1 ht hk hj, ht, hk, j, hj, e, h2⟩
section FX
variable {m h : Int32} {rnd : Int64} {pa th pr pl st sh de we fu : Nat → Int32} {K N : Nat → Nat} {s : Nat}
theorem fx_cnt4 {S : Int32} {post : Int32 → Prop} {t : Nat} {f : Nat → Nat} (ht : t < 24) (hf : ∀ c, c < t → fu c = nI (f c) ∧ f c ≤ 1) (hp : post (nI (ma_sm (fun c => if pr c = nI t then f c else 0) t))) :
    ∀ d i, i + d = t → wX_countFulfilled_4 post (nI t) m h S rnd pa th pr pl st sh de we fu (d + 1) (nI (ma_sm (fun c => if pr c = nI t then f c else 0) i)) (nI i) := by
  intro d
  induction d with
  | zero =>
    intro i hi
    have : i = t := by omega
    subst this
    exact br_t (nI_le (by omega) (by omega)) hp
  | succ d ih =>
    intro i hi
    have iv : vp_in (nI i) 24 := vp_in_nI (by omega) (by decide)
    have hs := ih (i + 1) (by omega)
    rw [ma_sm] at hs
    refine br_f (nI_ge (by omega) (by omega)) (And.intro iv ?_)
    rw [nI_clamp (show i < 2 ^ 31 by omega)]
    refine br_c (fun h1 => And.intro iv ?_) (fun h1 => ?_)
    · rw [if_pos h1] at hs
      obtain ⟨e1, e2⟩ := hf i (by omega)
      rw [e1]
      refine br_c (fun h2 => ?_) (fun h2 => ?_)
      · have : f i = 0 := (nI_eq (by omega) (by decide)).mp (h2.trans nI_0.symm)
        rw [this] at hs
        exact nm_r (nI_1 i) hs
      · have : f i = 1 := by
          rcases Nat.lt_or_ge (f i) 1 with z | z
          · exact absurd (by rw [show f i = 0 by omega]; exact nI_0) h2
          · omega
        rw [this] at hs
        exact nm_r (nI_1 _) (nm_r (nI_1 i) hs)
    · rw [if_neg h1] at hs
      exact nm_r (nI_1 i) hs
theorem fx_cnt {S : Int32} {post : Int32 → Prop} {t : Nat} {f : Nat → Nat} (ht : t < 24) (hf : ∀ c, c < t → fu c = nI (f c) ∧ f c ≤ 1) (hp : post (nI (ma_sm (fun c => if pr c = nI t then f c else 0) t))) :
    wpX_countFulfilled post (m, h, S, rnd, pa, th, pr, pl, st, sh, de, we, fu) (nI t) :=
  Exists.intro (t + 1) (fx_cnt4 ht hf hp t 0 (by omega))
theorem fx_4 {mask : Int32} (hF : fm_ok K N s pa th pr pl) {post : Int32 → SX → Prop} (hp : ∀ fu', (∀ c, c < s → fu' c = nI (ma_F K N (ma_b mask) c)) → post (nI (ma_F K N (ma_b mask) (s - 1))) (m, h, nI s, rnd, pa, th, pr, pl, st, sh, de, we, fu')) :
    ∀ d i x fu1, i + d = s → (i = s → x = nI (ma_F K N (ma_b mask) (s - 1)) ∧ 0 < s) → (∀ c, c < i → fu1 c = nI (ma_F K N (ma_b mask) c)) → wX_fulfils_4 post mask m h (nI s) rnd (d + 1) x (nI i) pa th pr pl st sh de we fu1 := by
  have hs24 := hF.1
  intro d
  induction d with
  | zero =>
    intro i x fu1 hi hx hc
    have : i = s := by omega
    subst this
    obtain ⟨rfl, h0⟩ := hx rfl
    refine br_t (nI_le (by omega) (by omega)) (And.intro ?_ (hp fu1 hc))
    have := ma_F01 hF.2.1 mask (i := i - 1) (by omega)
    rcases Nat.lt_or_ge (ma_F K N (ma_b mask) (i - 1)) 1 with z | z
    · rw [show ma_F K N (ma_b mask) (i - 1) = 0 by omega]; exact ba_nw0
    · rw [show ma_F K N (ma_b mask) (i - 1) = 1 by omega]; exact ba_nw1
  | succ d ih =>
    intro i x fu1 hi hx hc
    have iv : vp_in (nI i) 24 := vp_in_nI (by omega) (by decide)
    have ec := nI_clamp (show i < 2 ^ 31 by omega)
    have hFe := ma_F_eq hF.2.1 (ma_b mask) (i := i) (by omega)
    -- the end of each turn
    have fin : ∀ z : Nat, z ≤ 1 → ma_F K N (ma_b mask) i = z → wX_fulfils_4 post mask m h (nI s) rnd (d + 1) (nI z) (nI (i + 1)) pa th pr pl st sh de we (upd fu1 i (nI z)) := by
      intro z _ ez
      refine ih (i + 1) _ _ (by omega) (fun e => ⟨by rw [← ez, show i = s - 1 by omega], by omega⟩) (fun c hc2 => ?_)
      by_cases e : c = i
      · rw [e, ez]; exact pk_us
      · rw [pk_un e]; exact hc c (by omega)
    refine br_f (nI_ge (by omega) (by omega)) ?_
    by_cases hk : K i = 0
    · have hpa := hF.2.2.1 i (by omega) hk
      have hN := ((hF.2.1 i (by omega)).1 hk).1
      refine sw_isLeaf (by omega) (fun z => absurd (hpa.symm.trans z) (ba_m1 (by omega))) (fun _ => ?_)
      refine br_f (by decide) (And.intro iv ?_)
      rw [ec, hpa]
      rw [ma_vl, if_pos hk, ma_b] at hFe
      refine sw_has (fun h1 => ?_) (fun h1 => ?_)
      · rw [if_pos h1] at hFe
        exact And.intro iv (nm_r (e' := upd fu1 i (nI 1)) rfl (nm_r (nI_1 i) (fin 1 (by omega) hFe)))
      · rw [if_neg h1] at hFe
        exact And.intro iv (nm_r (e' := upd fu1 i (nI 0)) rfl (nm_r (nI_1 i) (fin 0 (by omega) hFe)))
    · obtain ⟨hpa, hth⟩ := hF.2.2.2.1 i (by omega) (by omega)
      have hw := (hF.2.1 i (by omega)).2 (by omega)
      refine sw_isLeaf (by omega) (fun _ => ?_) (fun z => absurd hpa z)
      refine br_t rfl ?_
      refine fx_cnt (f := ma_F K N (ma_b mask)) (by omega) (fun c hc2 => ⟨hc c hc2, ma_F01 hF.2.1 mask (by omega)⟩) ?_
      rw [fm_sum hF (by omega) (by omega)]
      rw [ma_vl, if_neg hk] at hFe
      have hb : ma_sm (fun j => ma_F K N (ma_b mask) (ma_ch K N i j)) (N i) < 100 := by
        have : ∀ n, n ≤ N i → ma_sm (fun j => ma_F K N (ma_b mask) (ma_ch K N i j)) n ≤ n := by
          intro n
          induction n with
          | zero => intro _; exact Nat.le_refl _
          | succ n ihn =>
            intro hn
            have h1 := ihn (by omega)
            have h2 := ma_F01 hF.2.1 mask (i := ma_ch K N i n) (by
              have := ma_ch_lt hF.2.1 (t := i) (by omega) (by omega) (j := n) (by omega)
              omega)
            rw [ma_sm]; omega
        have := this _ (Nat.le_refl _)
        omega
      refine And.intro iv ?_
      rw [ec, hth]
      refine pk_lt _ _ (fun hlt => ?_) (fun hge => ?_) rfl rfl (by omega) (by omega)
      · rw [if_neg (by omega)] at hFe
        exact And.intro iv (nm_r (e' := upd fu1 i (nI 0)) (by rw [ec]; rfl) (nm_r (nI_1 i) (fin 0 (by omega) hFe)))
      · rw [if_pos hge] at hFe
        exact And.intro iv (nm_r (e' := upd fu1 i (nI 1)) (by rw [ec]; rfl) (nm_r (nI_1 i) (fin 1 (by omega) hFe)))
theorem fx_ful {mask : Int32} (hF : fm_ok K N s pa th pr pl) (h0 : 0 < s) {post : Int32 → SX → Prop} (hp : ∀ fu', (∀ c, c < s → fu' c = nI (ma_F K N (ma_b mask) c)) → post (nI (ma_F K N (ma_b mask) (s - 1))) (m, h, nI s, rnd, pa, th, pr, pl, st, sh, de, we, fu')) :
    wpX_fulfils post (m, h, nI s, rnd, pa, th, pr, pl, st, sh, de, we, fu) mask :=
  Exists.intro (s + 1) (fx_4 hF hp s 0 0 fu (by omega) (fun z => absurd z (by omega)) (fun c hc => absurd hc (Nat.not_lt_zero _)))
end FX
section FY
variable {m h c0 : Int32} {ka na sK sN ys : Nat → Int32} {K N : Nat → Nat} {s : Nat}
theorem fy_48 {S mask : Int32} {post : Int32 → SY → Prop} {J : Int32 → Int32 → (Nat → Int32) → (Nat → Int32) → (Nat → Int32) → (Nat → Int32) → (Nat → Int32) → Prop} {i H n : Nat} {g : Nat → Nat} (hi : i < 24) (hH : H ≤ 6) (hn : n ≤ H) (hN : sN i = nI n) (hg : ∀ q, q < n → ys (H - (q + 1)) = nI (g q) ∧ g q ≤ 1)
    (hp : wY_fulfils_86 post J mask (nI H) (nI i) (nI (ma_sm g n)) m h S c0 ka na sK sN ys) :
    ∀ d q, q + d = n → wY_fulfils_48 post J mask (nI H) (nI i) m h S c0 ka na sK sN ys (d + 1) (nI (ma_sm g q)) (nI (q + 1)) := by
  have iv : vp_in (nI i) 24 := vp_in_nI (by omega) (by decide)
  have ec := nI_clamp (show i < 2 ^ 31 by omega)
  intro d
  induction d with
  | zero =>
    intro q hq
    have : q = n := by omega
    subst this
    refine And.intro iv ?_
    rw [ec, hN]
    exact br_t (nI_lt (by omega) (by omega)) hp
  | succ d ih =>
    intro q hq
    have hs := ih (q + 1) (by omega)
    rw [ma_sm] at hs
    refine And.intro iv ?_
    rw [ec, hN]
    refine br_f (nI_nlt (by omega) (by omega)) (br_f (nI_nlt (by omega) (by omega)) ?_)
    rw [pk_sub (by omega)]
    refine And.intro (vp_in_nI (by omega) (by decide)) ?_
    obtain ⟨e1, e2⟩ := hg q (by omega)
    rw [nI_clamp (show H - (q + 1) < 2 ^ 31 by omega), e1]
    refine br_c (fun h2 => ?_) (fun h2 => ?_)
    · have : g q = 0 := (nI_eq (by omega) (by decide)).mp (h2.trans nI_0.symm)
      rw [this] at hs
      exact nm_r (nI_1 _) hs
    · have : g q = 1 := by
        rcases Nat.lt_or_ge (g q) 1 with z | z
        · exact absurd (by rw [show g q = 0 by omega]; exact nI_0) h2
        · omega
      rw [this] at hs
      exact nm_r (nI_1 _) (nm_r (nI_1 _) hs)
theorem fy_4 {mask : Int32} (hs24 : s ≤ 24) (hW : ma_wf K N s) (h1 : ma_hh K N s = 1) (h0 : 0 < s) (hK : ∀ i, i < s → sK i = nI (K i)) (hN : ∀ i, i < s → sN i = nI (N i)) {post : Int32 → SY → Prop} (hp : ∀ ys', post (nI (ma_F K N (ma_b mask) (s - 1))) (m, h, nI s, c0, ka, na, sK, sN, ys')) :
    ∀ d i ys1, i + d = s → (∀ p, p < ma_hh K N i → ys1 p = nI (ma_F K N (ma_b mask) (ma_sk K N i p))) → wY_fulfils_4 post mask m h (nI s) c0 (d + 1) (nI (ma_hh K N i)) (nI i) ka na sK sN ys1 := by
  intro d
  induction d with
  | zero =>
    intro i ys1 hi hc
    have : i = s := by omega
    subst this
    have e := hc 0 (by omega)
    rw [fm_top h1 h0] at e
    refine br_t (nI_le (by omega) (by omega)) ?_
    rw [e]
    refine And.intro ?_ (hp ys1)
    have := ma_F01 hW mask (i := i - 1) (by omega)
    rcases Nat.lt_or_ge (ma_F K N (ma_b mask) (i - 1)) 1 with z | z
    · rw [show ma_F K N (ma_b mask) (i - 1) = 0 by omega]; exact ba_nw0
    · rw [show ma_F K N (ma_b mask) (i - 1) = 1 by omega]; exact ba_nw1
  | succ d ih =>
    intro i ys1 hi hc
    have iv : vp_in (nI i) 24 := vp_in_nI (by omega) (by decide)
    have ec := nI_clamp (show i < 2 ^ 31 by omega)
    have hFe := ma_F_eq hW (ma_b mask) (i := i) (by omega)
    have hh6 := ma_hh_le hW i (by omega)
    have har := ma_ar_le hW (i := i) (by omega)
    have hw := hW i (by omega)
    have hKb : K i ≤ 5 := by
      rcases Nat.eq_zero_or_pos (K i) with z | z
      · omega
      · have := hw.2 z; omega
    have fin : ∀ z : Nat, z ≤ 1 → ma_F K N (ma_b mask) i = z → wY_fulfils_113 post (wY_fulfils_4 post mask m h (nI s) c0 (d + 1)) mask (nI (ma_hh K N i - ma_ar K N i)) (nI i) (nI z) m h (nI s) c0 ka na sK sN ys1 := by
      intro z hz ez
      have h6 := ma_hh_le hW (i + 1) (by omega)
      rw [ma_hh] at h6
      refine And.intro (vp_in_nI (by omega) (by decide)) (nm_r (e' := upd ys1 (ma_hh K N i - ma_ar K N i) (nI z)) ?_ (nm_r (nI_1 _) (nm_r (nI_1 i) ?_)))
      · rw [nI_clamp (show ma_hh K N i - ma_ar K N i < 2 ^ 31 by omega)]
        rcases Nat.lt_or_ge z 1 with y | y
        · rw [show z = 0 by omega]; rfl
        · rw [show z = 1 by omega]; rfl
      · refine ih (i + 1) _ (by omega) (fun p hp2 => ?_)
        rw [ma_hh] at hp2
        show _ = nI (ma_F K N (ma_b mask) (if p = ma_hh K N i - ma_ar K N i then i else ma_sk K N i p))
        by_cases e : p = ma_hh K N i - ma_ar K N i
        · rw [if_pos e, e, ez]; exact pk_us
        · rw [if_neg e, pk_un e]; exact hc p (by omega)
    have mid : ∀ z : Nat, z ≤ 1 → z = ma_b mask (N i) → wY_fulfils_31 post (wY_fulfils_4 post mask m h (nI s) c0 (d + 1)) mask (nI (ma_hh K N i)) (nI i) (nI z) m h (nI s) c0 ka na sK sN ys1 := by
      intro z hz ez
      refine And.intro iv ?_
      rw [ec, hK i (by omega)]
      by_cases hk : K i = 0
      · have ha : ma_ar K N i = 0 := by rw [ma_ar, if_pos hk]
        have := fin z hz (by rw [hFe, ma_vl, if_pos hk]; exact ez.symm)
        rw [ha, Nat.sub_zero] at this
        refine br_t ?_ this
        rw [hk]; decide
      · have ha : ma_ar K N i = N i := by rw [ma_ar, if_neg hk]
        have hw2 := hw.2 (by omega)
        refine br_f (nI_nle (by omega) (by omega)) ?_
        refine Exists.intro (N i + 1) ?_
        refine fy_48 (H := ma_hh K N i) (n := N i) (g := fun q => ma_F K N (ma_b mask) (ma_ch K N i (N i - 1 - q))) (by omega) hh6 (by omega) (hN i (by omega)) (fun q hq => ?_) ?_ (N i) 0 (by omega)
        · refine ⟨?_, ma_F01 hW mask ?_⟩
          · rw [hc _ (by omega), ma_ch]
            congr 3
            omega
          · have := ma_ch_lt hW (t := i) (by omega) (by omega) (j := N i - 1 - q) (by omega)
            omega
        · rw [ma_sm_rev (fun j => ma_F K N (ma_b mask) (ma_ch K N i j)) (N i)]
          rw [ma_vl, if_neg hk] at hFe
          have hb : ma_sm (fun j => ma_F K N (ma_b mask) (ma_ch K N i j)) (N i) < 100 := by
            have : ∀ n, n ≤ N i → ma_sm (fun j => ma_F K N (ma_b mask) (ma_ch K N i j)) n ≤ n := by
              intro n
              induction n with
              | zero => intro _; exact Nat.le_refl _
              | succ n ihn =>
                intro hn
                have h1 := ihn (by omega)
                have h2 := ma_F01 hW mask (i := ma_ch K N i n) (by
                  have := ma_ch_lt hW (t := i) (by omega) (by omega) (j := n) (by omega)
                  omega)
                rw [ma_sm]; omega
            have := this _ (Nat.le_refl _)
            omega
          refine And.intro iv ?_
          rw [ec, hK i (by omega)]
          refine pk_lt _ _ (fun hlt => ?_) (fun hge => ?_) rfl rfl (by omega) (by omega)
          · rw [if_neg (by omega)] at hFe
            have := fin 0 (by omega) hFe
            rw [ha] at this
            refine And.intro iv (nm_r (e' := nI (ma_hh K N i - N i)) (by rw [ec, hN i (by omega), pk_sub (by omega)]) this)
          · rw [if_pos hge] at hFe
            have := fin 1 (by omega) hFe
            rw [ha] at this
            refine And.intro iv (nm_r (e' := nI (ma_hh K N i - N i)) (by rw [ec, hN i (by omega), pk_sub (by omega)]) this)
    refine br_f (nI_ge (by omega) (by omega)) (And.intro iv ?_)
    rw [ec, hN i (by omega)]
    refine br_c (fun hb => ?_) (fun hb => ?_)
    · exact mid 1 (by omega) (by rw [ma_b, if_pos hb])
    · exact mid 0 (by omega) (by rw [ma_b, if_neg hb])
theorem fy_ful {mask : Int32} (hs24 : s ≤ 24) (hW : ma_wf K N s) (h1 : ma_hh K N s = 1) (h0 : 0 < s) (hK : ∀ i, i < s → sK i = nI (K i)) (hN : ∀ i, i < s → sN i = nI (N i)) {post : Int32 → SY → Prop} (hp : ∀ ys', post (nI (ma_F K N (ma_b mask) (s - 1))) (m, h, nI s, c0, ka, na, sK, sN, ys')) :
    wpY_fulfils post (m, h, nI s, c0, ka, na, sK, sN, ys) mask :=
  Exists.intro (s + 1) (fy_4 hs24 hW h1 h0 hK hN hp s 0 ys (by omega) (fun p hp2 => absurd hp2 (Nat.not_lt_zero _)))
end FY
end
section
/-! dealing: addTerm, split, dealOntoShares -/
section DL
variable {m h S : Int32} {rnd : Int64} {pa th pr pl st sh de we fu : Nat → Int32} {K N : Nat → Nat} {s : Nat}
theorem dl_term8 {post : SX → Prop} {t dg a : Nat} {x v : Nat → Nat} (ht : t < 24) (hdg : dg < 10) (ha : a < 251) (hx : ∀ c, c < t → pr c = nI t → pl c = nI (x c) ∧ x c ≤ 5) (hv : ∀ c, c < t → pr c = nI t → de c = nI (v c) ∧ v c < 251)
    (hp : ∀ de', (∀ c, c < t → pr c = nI t → de' c = nI ((v c + a * x c ^ dg) % 251)) → (∀ c, ¬ (c < t ∧ pr c = nI t) → de' c = de c) → post (m, h, S, rnd, pa, th, pr, pl, st, sh, de', we, fu)) :
    ∀ d i de1, i + d = t → (∀ c, c < i → pr c = nI t → de1 c = nI ((v c + a * x c ^ dg) % 251)) → (∀ c, ¬ (c < i ∧ pr c = nI t) → de1 c = de c) → wX_addTerm_8 post (nI t) (nI dg) (nI a) m h S rnd (d + 1) (nI i) pa th pr pl st sh de1 we fu := by
  intro d
  induction d with
  | zero =>
    intro i de1 hi h1 h2
    have : i = t := by omega
    subst this
    exact br_t (nI_le (by omega) (by omega)) (hp de1 h1 h2)
  | succ d ih =>
    intro i de1 hi h1 h2
    have iv : vp_in (nI i) 24 := vp_in_nI (by omega) (by decide)
    have ec := nI_clamp (show i < 2 ^ 31 by omega)
    refine br_f (nI_ge (by omega) (by omega)) (And.intro iv ?_)
    rw [ec]
    refine br_c (fun hc => And.intro iv ?_) (fun hc => ?_)
    · obtain ⟨e1, e2⟩ := hx i (by omega) hc
      obtain ⟨e3, e4⟩ := hv i (by omega) hc
      have e5 : de1 i = nI (v i) := (h2 i (fun z => absurd z.1 (by omega))).trans e3
      rw [e1]
      refine sw_power (by omega) (by omega) ?_
      have hpw : x i ^ dg % 251 < 251 := Nat.mod_lt _ (by decide)
      have hm : a * (x i ^ dg % 251) < 251 * 251 := Nat.mul_lt_mul'' ha hpw
      have hq : a * (x i ^ dg % 251) % 251 < 251 := Nat.mod_lt _ (by decide)
      refine And.intro ba_251 (nm_r (ba_rem _ (pk_mul a (x i ^ dg % 251)) (by omega)) ?_)
      refine And.intro iv (And.intro ba_251 (And.intro iv ?_))
      refine nm_r (e' := upd de1 i (nI ((v i + a * x i ^ dg) % 251))) ?_ (nm_r (nI_1 i) ?_)
      · rw [e5, ba_rem _ (nI_add _ _) (by omega)]
        congr 2
        exact ma_am rfl (by rw [Nat.mod_mod]; exact ma_mm rfl (Nat.mod_mod _ _))
      · refine ih (i + 1) _ (by omega) (fun c hc1 hc2 => ?_) (fun c hc1 => ?_)
        · by_cases e : c = i
          · rw [e]; exact pk_us
          · rw [pk_un e]; exact h1 c (by omega) hc2
        · have e : c ≠ i := fun z => hc1 ⟨by omega, by rw [z]; exact hc⟩
          rw [pk_un e]
          exact h2 c (fun z => hc1 ⟨by omega, z.2⟩)
    · refine nm_r (nI_1 i) (ih (i + 1) _ (by omega) (fun c hc1 hc2 => ?_) (fun c hc1 => ?_))
      · by_cases e : c = i
        · rw [e] at hc2; exact absurd hc2 hc
        · exact h1 c (by omega) hc2
      · exact h2 c (fun z => hc1 ⟨by omega, z.2⟩)
theorem dl_term {post : SX → Prop} {t dg : Nat} {x v : Nat → Nat} (ht : t < 24) (hdg : dg < 10) (hx : ∀ c, c < t → pr c = nI t → pl c = nI (x c) ∧ x c ≤ 5) (hv : ∀ c, c < t → pr c = nI t → de c = nI (v c) ∧ v c < 251)
    (hp : ∀ a r de', (∀ c, c < t → pr c = nI t → de' c = nI ((v c + a * x c ^ dg) % 251)) → (∀ c, ¬ (c < t ∧ pr c = nI t) → de' c = de c) → post (m, h, S, r, pa, th, pr, pl, st, sh, de', we, fu)) :
    wpX_addTerm post (m, h, S, rnd, pa, th, pr, pl, st, sh, de, we, fu) (nI t) (nI dg) := by
  unfold wpX_addTerm
  dsimp only
  refine sw_draw (fun a r ha => ?_)
  exact Exists.intro (t + 1) (dl_term8 ht hdg ha hx hv (hp a r) t 0 de (by omega) (fun c hc => absurd hc (Nat.not_lt_zero _)) (fun c _ => rfl))
theorem dl_split37 {post : SX → Prop} {t k v0 : Nat} {x : Nat → Nat} (ht : t < 24) (hk : k ≤ 5) (hth : th t = nI k) (hx : ∀ c, c < t → pr c = nI t → pl c = nI (x c) ∧ x c ≤ 5)
    (hp : ∀ (a : Nat → Nat) r de', a 0 = v0 → (∀ c, c < t → pr c = nI t → de' c = nI (ma_po a k (x c) % 251)) → (∀ c, ¬ (c < t ∧ pr c = nI t) → de' c = de c) → post (m, h, S, r, pa, th, pr, pl, st, sh, de', we, fu)) :
    ∀ d dg (a : Nat → Nat) r de1, dg + d = k → 0 < dg → a 0 = v0 → (∀ c, c < t → pr c = nI t → de1 c = nI (ma_po a dg (x c) % 251)) → (∀ c, ¬ (c < t ∧ pr c = nI t) → de1 c = de c) → wX_split_37 post (nI t) (d + 1) (nI dg) m h S r pa th pr pl st sh de1 we fu := by
  have iv : vp_in (nI t) 24 := vp_in_nI (by omega) (by decide)
  have ec := nI_clamp (show t < 2 ^ 31 by omega)
  intro d
  induction d with
  | zero =>
    intro dg a r de1 hi h0 ha h1 h2
    have : dg = k := by omega
    subst this
    refine And.intro iv ?_
    rw [ec, hth]
    exact br_t (nI_le (by omega) (by omega)) (hp a r de1 ha h1 h2)
  | succ d ih =>
    intro dg a r de1 hi h0 ha h1 h2
    refine And.intro iv ?_
    rw [ec, hth]
    refine br_f (nI_ge (by omega) (by omega)) ?_
    refine dl_term (x := x) (v := fun c => ma_po a dg (x c) % 251) ht (by omega) hx (fun c hc1 hc2 => ⟨h1 c hc1 hc2, Nat.mod_lt _ (by decide)⟩) (fun b r2 de2 g1 g2 => ?_)
    refine nm_r (nI_1 dg) (ih (dg + 1) (fun i => if i = dg then b else a i) r2 de2 (by omega) (by omega) ?_ (fun c hc1 hc2 => ?_) (fun c hc => (g2 c hc).trans (h2 c hc)))
    · show (if 0 = dg then b else a 0) = v0
      rw [if_neg (by omega)]; exact ha
    · rw [g1 c hc1 hc2]
      congr 1
      have e : ma_po (fun i => if i = dg then b else a i) (dg + 1) (x c) = ma_po a dg (x c) + b * x c ^ dg := by
        rw [ma_po, ma_sm, if_pos rfl, ma_po]
        congr 1
        refine ma_sm_congr (fun i hi2 => ?_)
        show (if i = dg then b else a i) * _ = _
        rw [if_neg (by omega)]
      rw [e]
      exact ma_am (Nat.mod_mod _ _) rfl
theorem dl_split {post : SX → Prop} {t k v0 : Nat} {x : Nat → Nat} (ht : t < 24) (hk : k ≤ 5) (hk0 : 0 < k) (hth : th t = nI k) (hv : de t = nI v0) (hv0 : v0 < 251) (hx : ∀ c, c < t → pr c = nI t → pl c = nI (x c) ∧ x c ≤ 5)
    (hp : ∀ (a : Nat → Nat) r de', a 0 = v0 → (∀ c, c < t → pr c = nI t → de' c = nI (ma_po a k (x c) % 251)) → (∀ c, ¬ (c < t ∧ pr c = nI t) → de' c = de c) → post (m, h, S, r, pa, th, pr, pl, st, sh, de', we, fu)) :
    wpX_split post (m, h, S, rnd, pa, th, pr, pl, st, sh, de, we, fu) (nI t) := by
  have it : vp_in (nI t) 24 := vp_in_nI (by omega) (by decide)
  have et := nI_clamp (show t < 2 ^ 31 by omega)
  have key : ∀ d i de1, i + d = t → (∀ c, c < i → pr c = nI t → de1 c = nI v0) → (∀ c, ¬ (c < i ∧ pr c = nI t) → de1 c = de c) → wX_split_2 post (nI t) m h S rnd (d + 1) (nI i) pa th pr pl st sh de1 we fu := by
    intro d
    induction d with
    | zero =>
      intro i de1 hi h1 h2
      have : i = t := by omega
      subst this
      refine br_t (nI_le (by omega) (by omega)) (Exists.intro (k - 1 + 1) ?_)
      refine dl_split37 (de := de) (v0 := v0) (x := x) ht hk hth hx hp (k - 1) 1 (fun _ => v0) rnd de1 (by omega) (by omega) rfl (fun c hc1 hc2 => ?_) h2
      rw [h1 c hc1 hc2]
      congr 1
      show v0 = (0 + v0 * x c ^ 0) % 251
      rw [Nat.pow_zero, Nat.mul_one, Nat.zero_add, Nat.mod_eq_of_lt hv0]
    | succ d ih =>
      intro i de1 hi h1 h2
      have iv : vp_in (nI i) 24 := vp_in_nI (by omega) (by decide)
      have ec := nI_clamp (show i < 2 ^ 31 by omega)
      refine br_f (nI_ge (by omega) (by omega)) (And.intro iv ?_)
      rw [ec]
      refine br_c (fun hc => And.intro it (And.intro iv ?_)) (fun hc => ?_)
      · have e5 : de1 t = nI v0 := (h2 t (fun z => absurd z.1 (by omega))).trans hv
        refine nm_r (e' := upd de1 i (nI v0)) (by rw [et, e5]) (nm_r (nI_1 i) ?_)
        refine ih (i + 1) _ (by omega) (fun c hc1 hc2 => ?_) (fun c hc1 => ?_)
        · by_cases e : c = i
          · rw [e]; exact pk_us
          · rw [pk_un e]; exact h1 c (by omega) hc2
        · have e : c ≠ i := fun z => hc1 ⟨by omega, by rw [z]; exact hc⟩
          rw [pk_un e]
          exact h2 c (fun z => hc1 ⟨by omega, z.2⟩)
      · refine nm_r (nI_1 i) (ih (i + 1) _ (by omega) (fun c hc1 hc2 => ?_) (fun c hc1 => ?_))
        · by_cases e : c = i
          · rw [e] at hc2; exact absurd hc2 hc
          · exact h1 c (by omega) hc2
        · exact h2 c (fun z => hc1 ⟨by omega, z.2⟩)
  exact Exists.intro (t + 1) (key t 0 de (by omega) (fun c hc => absurd hc (Nat.not_lt_zero _)) (fun c _ => rfl))
/-- what stands when the nodes from i on are dealt: f the numbers dealt -/
def dl_Inv (K N : Nat → Nat) (s : Nat) (pr sh : Nat → Int32) (sg : Nat → Nat) (num i : Nat) (f : Nat → Nat) (sh1 de1 : Nat → Int32) : Prop :=
  f (s - 1) = num ∧ (∀ t, i ≤ t → t < s → 0 < K t → ∃ a : Nat → Nat, a 0 = f t ∧ ∀ j, j < N t → f (ma_ch K N t j) = ma_po a (K t) (j + 1) % 251) ∧
  (∀ c, c < s → K c = 0 → (i ≤ c → sh1 c = nI ((sg c + f c) % 251)) ∧ (c < i → sh1 c = sh c)) ∧
  (∀ c, c < i → (c = s - 1 ∨ ∃ t, i ≤ t ∧ t < s ∧ 0 < K t ∧ pr c = nI t) → de1 c = nI (f c) ∧ f c < 251)
theorem dl_19 (hF : fm_ok K N s pa th pr pl) (h1 : ma_hh K N s = 1) {sg : Nat → Nat} (hsg : ∀ c, c < s → K c = 0 → sh c = nI (sg c) ∧ sg c < 251) {num : Nat} {post : SX → Prop}
    (hp : ∀ r sh' de' f, ma_Gd K N s f num → (∀ c, c < s → K c = 0 → sh' c = nI ((sg c + f c) % 251)) → post (m, h, S, r, pa, th, pr, pl, st, sh', de', we, fu)) :
    ∀ i f r sh1 de1, i ≤ s → dl_Inv K N s pr sh sg num i f sh1 de1 → wX_dealOntoShares_19 post (i + 1) (nI i + (-1)) m h S r pa th pr pl st sh1 de1 we fu := by
  have hs24 := hF.1
  intro i
  induction i with
  | zero =>
    intro f r sh1 de1 _ I
    refine br_t (by decide) (hp r sh1 de1 f ⟨by rw [I.1], fun t ht hk => ?_⟩ (fun c hc hk => (I.2.2.1 c hc hk).1 (Nat.zero_le _)))
    obtain ⟨a, a0, ha⟩ := I.2.1 t (Nat.zero_le _) ht hk
    exact ⟨a, by rw [a0], fun j hj => by rw [ha j hj, Nat.mod_mod]⟩
  | succ i ih =>
    intro f r sh1 de1 hi I
    obtain ⟨I1, I2, I3, I4⟩ := I
    rw [pk_m1]
    have iv : vp_in (nI i) 24 := vp_in_nI (by omega) (by decide)
    have ec := nI_clamp (show i < 2 ^ 31 by omega)
    obtain ⟨ed, fd⟩ := I4 i (by omega) (by
      rcases fm_par hF h1 (c := i) (by omega) with e | ⟨t, g1, g2, g3, j, g4, g5, g6, g7⟩
      · exact Or.inl e
      · exact Or.inr ⟨t, by omega, g2, g3, g6⟩)
    refine br_f (nI_pos (by omega)) ?_
    by_cases hk : K i = 0
    · have hpa := hF.2.2.1 i (by omega) hk
      have hN := ((hF.2.1 i (by omega)).1 hk).1
      refine sw_isLeaf (by omega) (fun z => absurd (hpa.symm.trans z) (ba_m1 (by omega))) (fun _ => ?_)
      obtain ⟨es, hs⟩ := hsg i (by omega) hk
      have es1 : sh1 i = nI (sg i) := ((I3 i (by omega) hk).2 (by omega)).trans es
      refine br_f (by decide) (And.intro iv (And.intro iv (And.intro ba_251 (And.intro iv ?_))))
      refine nm_r (e' := upd sh1 i (nI ((sg i + f i) % 251))) ?_ (And.intro iv (nm_r (e' := upd de1 i 0) (by rw [ec]) (nm_e ?_)))
      · rw [ec, es1, ed, ba_rem _ (nI_add _ _) (by omega)]
      · refine ih f r _ _ (by omega) ⟨I1, fun t g1 g2 g3 => ?_, fun c g1 g2 => ⟨fun g3 => ?_, fun g3 => ?_⟩, fun c g1 g2 => ?_⟩
        · have : t ≠ i := fun z => by rw [z] at g3; omega
          exact I2 t (by omega) g2 g3
        · by_cases e : c = i
          · rw [e]; exact pk_us
          · rw [pk_un e]; exact (I3 c g1 g2).1 (by omega)
        · rw [pk_un (by omega)]; exact (I3 c g1 g2).2 (by omega)
        · rw [pk_un (by omega)]
          refine I4 c (by omega) ?_
          rcases g2 with e | ⟨t, g3, g4, g5, g6⟩
          · exact Or.inl e
          · have : t ≠ i := fun z => by rw [z] at g5; omega
            exact Or.inr ⟨t, by omega, g4, g5, g6⟩
    · obtain ⟨hpa, hth⟩ := hF.2.2.2.1 i (by omega) (by omega)
      have hw := (hF.2.1 i (by omega)).2 (by omega)
      refine sw_isLeaf (by omega) (fun _ => ?_) (fun z => absurd hpa z)
      refine br_t rfl ?_
      refine dl_split (k := K i) (v0 := f i) (x := fun c => (pl c).toNatClampNeg) (by omega) (by omega) (by omega) hth ed fd (fun c g1 g2 => ?_) (fun a r2 de2 a0 g1 g2 => ?_)
      · obtain ⟨j, hj, e⟩ := hF.2.2.2.2.2 i (by omega) (by omega) c g1 g2
        have := (hF.2.2.2.2.1 i (by omega) (by omega) j hj).2
        rw [← e] at this
        show pl c = nI (pl c).toNatClampNeg ∧ (pl c).toNatClampNeg ≤ 5
        rw [this, nI_clamp (show j + 1 < 2 ^ 31 by omega)]
        exact ⟨rfl, by omega⟩
      · refine And.intro iv (nm_r (e' := upd de2 i 0) (by rw [ec]) (nm_e ?_))
        refine ih (fun c => if c < i ∧ pr c = nI i then ma_po a (K i) (pl c).toNatClampNeg % 251 else f c) r2 _ _ (by omega) ⟨?_, fun t q1 q2 q3 => ?_, fun c q1 q2 => ⟨fun q3 => ?_, fun q3 => ?_⟩, fun c q1 q2 => ?_⟩
        · show (if s - 1 < i ∧ _ then _ else f (s - 1)) = num
          rw [if_neg (fun z => absurd z.1 (by omega))]; exact I1
        · by_cases e : t = i
          · subst e
            refine ⟨a, ?_, fun j hj => ?_⟩
            · show a 0 = if t < t ∧ _ then _ else f t
              rw [if_neg (fun z => absurd z.1 (by omega))]; exact a0
            · obtain ⟨w1, w2⟩ := hF.2.2.2.2.1 t q2 q3 j hj
              have w3 := ma_ch_lt hF.2.1 q2 q3 hj
              show (if ma_ch K N t j < t ∧ pr (ma_ch K N t j) = nI t then _ else _) = _
              rw [if_pos ⟨w3, w1⟩, w2, nI_clamp (show j + 1 < 2 ^ 31 by have := (hF.2.1 t q2).2 q3; omega)]
          · obtain ⟨b, b0, hb⟩ := I2 t (by omega) q2 q3
            refine ⟨b, ?_, fun j hj => ?_⟩
            · show b 0 = if t < i ∧ _ then _ else f t
              rw [if_neg (fun z => absurd z.1 (by omega))]; exact b0
            · obtain ⟨w1, w2⟩ := hF.2.2.2.2.1 t q2 q3 j hj
              show (if ma_ch K N t j < i ∧ pr (ma_ch K N t j) = nI i then _ else _) = _
              rw [if_neg (fun z => e ((nI_eq (by omega) (by omega)).mp (w1.symm.trans z.2))), hb j hj]
        · have e : c ≠ i := fun z => by rw [z] at q2; omega
          show sh1 c = nI ((sg c + if c < i ∧ _ then _ else f c) % 251)
          rw [if_neg (fun z => absurd z.1 (by omega))]; exact (I3 c q1 q2).1 (by omega)
        · exact (I3 c q1 q2).2 (by omega)
        · rw [pk_un (by omega)]
          show de2 c = nI (if c < i ∧ pr c = nI i then _ else f c) ∧ (if c < i ∧ pr c = nI i then _ else f c) < 251
          by_cases e : pr c = nI i
          · rw [if_pos ⟨q1, e⟩]
            exact ⟨g1 c q1 e, Nat.mod_lt _ (by decide)⟩
          · rw [if_neg (fun z => e z.2), g2 c (fun z => e z.2)]
            refine I4 c (by omega) ?_
            rcases q2 with w | ⟨t, g3, g4, g5, g6⟩
            · exact Or.inl w
            · have : t ≠ i := fun z => e (by rw [← z]; exact g6)
              exact Or.inr ⟨t, by omega, g4, g5, g6⟩
theorem dl_deal (hF : fm_ok K N s pa th pr pl) (h1 : ma_hh K N s = 1) (h0 : 0 < s) {sg : Nat → Nat} (hsg : ∀ c, c < s → K c = 0 → sh c = nI (sg c) ∧ sg c < 251) {num : Nat} (hn : num < 251) {post : SX → Prop}
    (hp : ∀ r sh' de' f, ma_Gd K N s f num → (∀ c, c < s → K c = 0 → sh' c = nI ((sg c + f c) % 251)) → post (m, h, nI s, r, pa, th, pr, pl, st, sh', de', we, fu)) :
    wpX_dealOntoShares post (m, h, nI s, rnd, pa, th, pr, pl, st, sh, de, we, fu) (nI num) := by
  have hs24 := hF.1
  obtain ⟨i, rfl⟩ : ∃ i, s = i + 1 := ⟨s - 1, by omega⟩
  unfold wpX_dealOntoShares
  dsimp only
  rw [nI_pred]
  refine And.intro (vp_in_nI (by omega) (by decide)) (nm_r (e' := upd de i (nI num)) (by rw [nI_clamp (show i < 2 ^ 31 by omega)]) (nm_e (Exists.intro (i + 1 + 1) ?_)))
  have := dl_19 hF h1 hsg hp (i + 1) (fun _ => num) rnd sh (upd de i (nI num)) (Nat.le_refl _) ⟨rfl, fun t g1 g2 => absurd g2 (by omega), fun c g1 g2 => ⟨fun g3 => absurd g3 (by omega), fun _ => rfl⟩, fun c g1 g2 => ?_⟩
  · rw [pk_m1] at this
    exact this
  · rcases g2 with e | ⟨t, g3, g4, _⟩
    · rw [e]; exact ⟨pk_us, hn⟩
    · exact absurd g4 (by omega)
end DL
end
section
/-! putting together: choosePlaces, weightAtZero, weighChildren, putTogether -/
theorem op_ext {f : Nat → Nat} {n : Nat} : ∀ d, (∀ j, n ≤ j → j < n + d → f j = 0) → ma_sm f (n + d) = ma_sm f n := by
  intro d
  induction d with
  | zero => intro _; rfl
  | succ d ih =>
    intro h
    show ma_sm f (n + d) + f (n + d) = _
    rw [ih (fun j h1 h2 => h j h1 (by omega)), h (n + d) (by omega) (by omega)]; rfl
/-- the places chosen -/
def op_Ch (pr : Nat → Int32) (x f : Nat → Nat) (t k i C : Nat) : Prop :=
  C < 64 ∧ lz_pc C = min k (ma_sm (fun c => if pr c = nI t then f c else 0) i) ∧ ∀ q, q < 5 → lz_has C (q + 1) = true → ∃ c, c < i ∧ pr c = nI t ∧ f c = 1 ∧ x c = q
section OP
variable {m h S : Int32} {rnd : Int64} {pa th pr pl st sh de we fu : Nat → Int32} {K N : Nat → Nat} {s : Nat}
theorem op_cp7 {post : Int32 → Prop} {t k : Nat} {x f : Nat → Nat} (ht : t < 24) (hk : k ≤ 5) (hth : th t = nI k) (hx : ∀ c, c < t → pr c = nI t → pl c = nI (x c + 1) ∧ x c < 5) (hin : ∀ c d, c < t → d < t → pr c = nI t → pr d = nI t → x c = x d → c = d) (hf : ∀ c, c < t → fu c = nI (f c) ∧ f c ≤ 1)
    (hp : ∀ C, op_Ch pr x f t k t C → post (nI C)) :
    ∀ d i C, i + d = t → op_Ch pr x f t k i C → wX_choosePlaces_7 post (nI t) m h S rnd pa th pr pl st sh de we fu (d + 1) (nI C) (nI (lz_pc C)) (nI i) := by
  have it : vp_in (nI t) 24 := vp_in_nI (by omega) (by decide)
  have et := nI_clamp (show t < 2 ^ 31 by omega)
  intro d
  induction d with
  | zero =>
    intro i C hi I
    have : i = t := by omega
    subst this
    exact br_t (nI_le (by omega) (by omega)) (hp C I)
  | succ d ih =>
    intro i C hi I
    obtain ⟨I1, I2, I3⟩ := I
    have iv : vp_in (nI i) 24 := vp_in_nI (by omega) (by decide)
    have ec := nI_clamp (show i < 2 ^ 31 by omega)
    have h5 := lz_pc5 C I1
    have skip : lz_pc C = min k (ma_sm (fun c => if pr c = nI t then f c else 0) (i + 1)) → wX_choosePlaces_7 post (nI t) m h S rnd pa th pr pl st sh de we fu (d + 1) (nI C) (nI (lz_pc C)) (nI (i + 1)) := fun e =>
      ih (i + 1) C (by omega) ⟨I1, e, fun q hq hh => by
        obtain ⟨c, g1, g2⟩ := I3 q hq hh
        exact ⟨c, by omega, g2⟩⟩
    rw [ma_sm] at skip
    refine br_f (nI_ge (by omega) (by omega)) (And.intro iv ?_)
    rw [ec]
    refine br_c (fun hc => And.intro iv ?_) (fun hc => ?_)
    · obtain ⟨e1, e2⟩ := hf i (by omega)
      obtain ⟨e3, e4⟩ := hx i (by omega) hc
      rw [if_pos hc] at skip
      rw [e1]
      refine br_c (fun h2 => ?_) (fun h2 => ?_)
      · have : f i = 0 := (nI_eq (by omega) (by decide)).mp (h2.trans nI_0.symm)
        rw [this] at skip
        exact nm_r (nI_1 i) (skip I2)
      · have hf1 : f i = 1 := by
          rcases Nat.lt_or_ge (f i) 1 with z | z
          · exact absurd (by rw [show f i = 0 by omega]; exact nI_0) h2
          · omega
        refine And.intro it ?_
        rw [et, hth]
        refine pk_le k (lz_pc C) (fun hle => ?_) (fun hlt => ?_) rfl rfl (by omega) (by omega)
        · exact nm_r (nI_1 i) (skip (by omega))
        · refine And.intro iv ?_
          rw [e3]
          obtain ⟨o1, o2⟩ := lz_orI C I1 (x i) e4
          have hno : lz_has C (x i + 1) = false := by
            cases hb : lz_has C (x i + 1) with
            | false => rfl
            | true =>
              obtain ⟨c, g1, g2, _, g3⟩ := I3 (x i) e4 hb
              have := hin c i (by omega) (by omega) g2 hc g3
              omega
          have o3 := lz_or C I1 (x i) e4 hno
          refine nm_r o1 (nm_r (e' := nI (lz_pc (C ||| 2 ^ (x i + 1)))) (by rw [nI_1, o3]) (nm_r (nI_1 i) ?_))
          refine ih (i + 1) _ (by omega) ⟨o2, ?_, fun q hq hh => ?_⟩
          · rw [o3, ma_sm, if_pos hc, hf1]; omega
          · rw [lz_or2 C I1 (x i) e4 q hq, Bool.or_eq_true] at hh
            rcases hh with hh | hh
            · obtain ⟨c, g1, g2⟩ := I3 q hq hh
              exact ⟨c, by omega, g2⟩
            · exact ⟨i, by omega, hc, hf1, (beq_iff_eq.mp hh).symm⟩
    · rw [if_neg hc] at skip
      exact nm_r (nI_1 i) (skip I2)
theorem op_cp {post : Int32 → Prop} {t k : Nat} {x f : Nat → Nat} (ht : t < 24) (hk : k ≤ 5) (hth : th t = nI k) (hx : ∀ c, c < t → pr c = nI t → pl c = nI (x c + 1) ∧ x c < 5) (hin : ∀ c d, c < t → d < t → pr c = nI t → pr d = nI t → x c = x d → c = d) (hf : ∀ c, c < t → fu c = nI (f c) ∧ f c ≤ 1)
    (hp : ∀ C, op_Ch pr x f t k t C → post (nI C)) : wpX_choosePlaces post (m, h, S, rnd, pa, th, pr, pl, st, sh, de, we, fu) (nI t) :=
  Exists.intro (t + 1) (op_cp7 ht hk hth hx hin hf hp t 0 0 (by omega) ⟨by decide, by rw [ma_sm, Nat.min_zero]; rfl, fun q hq hh => absurd hh (by
    have : ∀ q, q < 5 → ¬ lz_has 0 (q + 1) = true := by decide
    exact this q hq)⟩)
theorem op_sub (a b c : Int32) : (a - b) + c = (a + c) - b := by grind
theorem op_wz17 {post : Int32 → Prop} {C x : Nat} (hC : C < 64) (hx : x < 6) : ∀ d o ab be, o + d = 6 → 0 < o → ab < 251 → be < 251 → post (nI (lz_lp C x d o ab be)) → wX_weightAtZero_17 post (nI C) (nI x) (d + 1) (nI ab) (nI be) (nI o) := by
  intro d
  induction d with
  | zero =>
    intro o ab be ho h0 ha hb hp
    refine br_t (nI_lt (a := 5) (by omega) (by omega)) ?_
    refine sw_power (e := 249) hb (by decide) (And.intro ba_251 ?_)
    have hq : be ^ 249 % 251 < 251 := Nat.mod_lt _ (by decide)
    have hm : ab * (be ^ 249 % 251) < 251 * 251 := Nat.mul_lt_mul'' ha hq
    rw [ba_rem _ (pk_mul _ _) (by omega)]
    exact hp
  | succ d ih =>
    intro o ab be ho h0 ha hb hp
    rw [lz_lp] at hp
    refine br_f (nI_nlt (a := 5) (by omega) (by omega)) ?_
    refine pk_eq o x (fun e => ?_) (fun e => ?_) rfl rfl (by omega) (by omega)
    · rw [if_pos e] at hp
      exact nm_r (nI_1 o) (ih (o + 1) ab be (by omega) (by omega) ha hb hp)
    · rw [if_neg e] at hp
      have hI := lz_hasI C hC o (by omega)
      refine sw_has (fun h1 => ?_) (fun h1 => ?_)
      · rw [if_pos (hI.mp h1)] at hp
        have hm1 : ab * o < 251 * 251 := Nat.mul_lt_mul'' ha (by omega)
        have hm2 : be * (o + 251 - x) < 251 * 300 := Nat.mul_lt_mul'' hb (by omega)
        refine br_f (by decide) (And.intro ba_251 (nm_r (ba_rem _ (pk_mul ab o) (by omega)) (And.intro ba_251 ?_)))
        refine nm_r (e' := nI (be * (o + 251 - x) % 251)) ?_ (nm_r (nI_1 o) ?_)
        · refine ba_rem _ ?_ (by omega)
          rw [op_sub, show (251 : Int32) = nI 251 from rfl, nI_add, pk_sub (by omega), pk_mul]
        · exact ih (o + 1) _ _ (by omega) (by omega) (Nat.mod_lt _ (by decide)) (Nat.mod_lt _ (by decide)) hp
      · rw [if_neg (fun z => h1 (hI.mpr z))] at hp
        exact br_t rfl (nm_r (nI_1 o) (ih (o + 1) ab be (by omega) (by omega) ha hb hp))
theorem op_wz {post : Int32 → Prop} {C x : Nat} (hC : C < 64) (hx : x < 6) (hp : post (nI (lz_w C x))) : wpX_weightAtZero post (nI C) (nI x) := by
  unfold wpX_weightAtZero
  have hI := lz_hasI C hC x hx
  rw [lz_w] at hp
  refine sw_has (fun h1 => ?_) (fun h1 => ?_)
  · rw [if_pos (hI.mp h1)] at hp
    exact br_f (by decide) (Exists.intro 6 (op_wz17 hC hx 5 1 1 1 (by omega) (by omega) (by decide) (by decide) hp))
  · rw [if_neg (fun z => h1 (hI.mpr z))] at hp
    exact br_t rfl hp
theorem op_wc {post : SX → Prop} {t k w : Nat} {x f : Nat → Nat} (ht : t < 24) (hk : k ≤ 5) (hth : th t = nI k) (hx : ∀ c, c < t → pr c = nI t → pl c = nI (x c + 1) ∧ x c < 5) (hin : ∀ c d, c < t → d < t → pr c = nI t → pr d = nI t → x c = x d → c = d) (hf : ∀ c, c < t → fu c = nI (f c) ∧ f c ≤ 1) (hw : we t = nI w) (hw2 : w < 251)
    (hp : ∀ C we', op_Ch pr x f t k t C → (∀ c, c < t → pr c = nI t → we' c = nI (w * lz_w C (x c + 1) % 251)) → (∀ c, ¬ (c < t ∧ pr c = nI t) → we' c = we c) → post (m, h, S, rnd, pa, th, pr, pl, st, sh, de, we', fu)) :
    wpX_weighChildren post (m, h, S, rnd, pa, th, pr, pl, st, sh, de, we, fu) (nI t) := by
  have it : vp_in (nI t) 24 := vp_in_nI (by omega) (by decide)
  have et := nI_clamp (show t < 2 ^ 31 by omega)
  unfold wpX_weighChildren
  dsimp only
  refine op_cp ht hk hth hx hin hf (fun C hC => ?_)
  have key : ∀ d i we1, i + d = t → (∀ c, c < i → pr c = nI t → we1 c = nI (w * lz_w C (x c + 1) % 251)) → (∀ c, ¬ (c < i ∧ pr c = nI t) → we1 c = we c) → wX_weighChildren_8 post (nI t) (nI C) m h S rnd (d + 1) (nI i) pa th pr pl st sh de we1 fu := by
    intro d
    induction d with
    | zero =>
      intro i we1 hi h1 h2
      have : i = t := by omega
      subst this
      exact br_t (nI_le (by omega) (by omega)) (hp C we1 hC h1 h2)
    | succ d ih =>
      intro i we1 hi h1 h2
      have iv : vp_in (nI i) 24 := vp_in_nI (by omega) (by decide)
      have ec := nI_clamp (show i < 2 ^ 31 by omega)
      refine br_f (nI_ge (by omega) (by omega)) (And.intro iv ?_)
      rw [ec]
      refine br_c (fun hc => And.intro it (And.intro iv ?_)) (fun hc => ?_)
      · obtain ⟨e1, e2⟩ := hx i (by omega) hc
        rw [e1]
        refine op_wz hC.1 (by omega) (And.intro ba_251 (And.intro iv ?_))
        have e5 : we1 t = nI w := (h2 t (fun z => absurd z.1 (by omega))).trans hw
        have hl := lz_wlt C hC.1 (x i + 1) (by omega)
        have hm : w * lz_w C (x i + 1) < 251 * 251 := Nat.mul_lt_mul'' hw2 hl
        refine nm_r (e' := upd we1 i (nI (w * lz_w C (x i + 1) % 251))) (by rw [et, e5, ba_rem _ (pk_mul _ _) (by omega)]) (nm_r (nI_1 i) ?_)
        refine ih (i + 1) _ (by omega) (fun c hc1 hc2 => ?_) (fun c hc1 => ?_)
        · by_cases e : c = i
          · rw [e]; exact pk_us
          · rw [pk_un e]; exact h1 c (by omega) hc2
        · have e : c ≠ i := fun z => hc1 ⟨by omega, by rw [z]; exact hc⟩
          rw [pk_un e]
          exact h2 c (fun z => hc1 ⟨by omega, z.2⟩)
      · refine nm_r (nI_1 i) (ih (i + 1) _ (by omega) (fun c hc1 hc2 => ?_) (fun c hc1 => ?_))
        · by_cases e : c = i
          · rw [e] at hc2; exact absurd hc2 hc
          · exact h1 c (by omega) hc2
        · exact h2 c (fun z => hc1 ⟨by omega, z.2⟩)
  exact Exists.intro (t + 1) (key t 0 we (by omega) (fun c hc => absurd hc (Nat.not_lt_zero _)) (fun c _ => rfl))
/-- the children's part of the sum -/
theorem op_lag (hF : fm_ok K N s pa th pr pl) {val F x : Nat → Nat} {sec : Nat} (hG : ma_Gd K N s val sec) {t C w : Nat} (ht : t < s) (hk : 0 < K t) (hC : op_Ch pr x F t (K t) t C) (hfu : w ≠ 0 → K t ≤ ma_sm (fun j => F (ma_ch K N t j)) (N t)) (hx : ∀ j, j < N t → x (ma_ch K N t j) = j) :
    ma_sm (fun c => if pr c = nI t then (w * lz_w C (x c + 1) % 251) * val c else 0) t % 251 = w * val t % 251 := by
  have hw := (hF.2.1 t ht).2 hk
  rw [fm_sum hF ht hk (fun c => (w * lz_w C (x c + 1) % 251) * val c)]
  obtain ⟨a, a0, ha⟩ := hG.2 t ht hk
  obtain ⟨C1, C2, C3⟩ := hC
  by_cases hw0 : w = 0
  · rw [hw0, Nat.zero_mul]
    rw [ma_sm_0 (fun j _ => by
      show 0 * _ % 251 * _ = 0
      rw [Nat.zero_mul, Nat.zero_mod, Nat.zero_mul])]
  · have hpc : lz_pc C = K t := by
      rw [C2, fm_sum hF ht hk F]
      have := hfu hw0
      omega
    have e1 : ma_sm (fun j => (w * lz_w C (x (ma_ch K N t j) + 1) % 251) * val (ma_ch K N t j)) (N t) % 251 = ma_sm (fun j => w * (lz_w C (j + 1) * ma_po a (K t) (j + 1))) (N t) % 251 := by
      refine ma_sm_mod (fun j hj => ?_)
      show (w * lz_w C (x (ma_ch K N t j) + 1) % 251) * val (ma_ch K N t j) % 251 = _
      rw [hx j hj, ← Nat.mul_assoc]
      exact ma_mm (Nat.mod_mod _ _) (ha j hj)
    have e2 : ma_sm (fun j => lz_w C (j + 1) * ma_po a (K t) (j + 1)) 5 = ma_sm (fun j => lz_w C (j + 1) * ma_po a (K t) (j + 1)) (N t) := by
      obtain ⟨d, hd⟩ : ∃ d, 5 = N t + d := ⟨5 - N t, by omega⟩
      rw [hd]
      refine op_ext d (fun j g1 g2 => ?_)
      have : lz_w C (j + 1) = 0 := by
        rw [lz_w]
        refine if_neg (fun z => ?_)
        obtain ⟨c, q1, q2, _, q3⟩ := C3 j (by omega) z
        obtain ⟨j2, q4, q5⟩ := hF.2.2.2.2.2 t ht hk c q1 q2
        rw [q5, hx j2 q4] at q3
        omega
      show lz_w C (j + 1) * _ = 0
      rw [this, Nat.zero_mul]
    rw [e1, ma_sm_mul w (fun j => lz_w C (j + 1) * ma_po a (K t) (j + 1)), ← e2]
    exact ma_mm rfl ((lz_main a C1 hpc hk).trans a0)
def op_fr (K : Nat → Nat) (s : Nat) (pr : Nat → Int32) (i c : Nat) : Prop := c = s - 1 ∨ ∃ t, i ≤ t ∧ t < s ∧ 0 < K t ∧ pr c = nI t
def op_Inv (K : Nat → Nat) (s : Nat) (pr : Nat → Int32) (F val : Nat → Nat) (sec i : Nat) (W : Nat → Nat) (q : Nat) (we1 : Nat → Int32) : Prop :=
  q < 251 ∧ (∀ c, c < i → op_fr K s pr i c → we1 c = nI (W c)) ∧ (∀ c, c < i → W c < 251 ∧ (W c ≠ 0 → F c = 1)) ∧ (∀ c, c < i → ¬ op_fr K s pr i c → W c = 0) ∧ (q + ma_sm (fun c => W c * val c) i) % 251 = sec % 251
theorem op_21 (hF : fm_ok K N s pa th pr pl) (h1 : ma_hh K N s = 1) {mask : Int32} {val : Nat → Nat} {sec : Nat} (hG : ma_Gd K N s val sec) (hsec : sec < 251) (hsh : ∀ c, c < s → K c = 0 → sh c = nI (val c % 251)) (hfu : ∀ c, c < s → fu c = nI (ma_F K N (ma_b mask) c)) {post : Int32 → SX → Prop}
    (hp : ∀ we', post (nI sec) (m, h, S, rnd, pa, th, pr, pl, st, sh, de, we', fu)) :
    ∀ i W q we1, i ≤ s → op_Inv K s pr (ma_F K N (ma_b mask)) val sec i W q we1 → wX_putTogether_21 post (i + 1) (nI q) (nI i + (-1)) m h S rnd pa th pr pl st sh de we1 fu := by
  have hs24 := hF.1
  intro i
  induction i with
  | zero =>
    intro W q we1 _ I
    obtain ⟨I1, _, _, _, I5⟩ := I
    refine br_t (by decide) ?_
    rw [ma_sm, Nat.add_zero, Nat.mod_eq_of_lt I1, Nat.mod_eq_of_lt hsec] at I5
    rw [I5]
    exact hp we1
  | succ i ih =>
    intro W q we1 hi I
    obtain ⟨I1, I2, I3, I4, I5⟩ := I
    rw [pk_m1]
    have iv : vp_in (nI i) 24 := vp_in_nI (by omega) (by decide)
    have ec := nI_clamp (show i < 2 ^ 31 by omega)
    have ew := I2 i (by omega) (by
      rcases fm_par hF h1 (c := i) (by omega) with e | ⟨t, g1, g2, g3, j, g4, g5, g6, g7⟩
      · exact Or.inl e
      · exact Or.inr ⟨t, by omega, g2, g3, g6⟩)
    obtain ⟨w1, w2⟩ := I3 i (by omega)
    rw [ma_sm] at I5
    refine br_f (nI_pos (by omega)) ?_
    by_cases hk : K i = 0
    · have hpa := hF.2.2.1 i (by omega) hk
      have hN := ((hF.2.1 i (by omega)).1 hk).1
      have up : ∀ c, op_fr K s pr i c → op_fr K s pr (i + 1) c := by
        intro c g
        rcases g with e | ⟨t, g3, g4, g5, g6⟩
        · exact Or.inl e
        · have : t ≠ i := fun z => by rw [z] at g5; omega
          exact Or.inr ⟨t, by omega, g4, g5, g6⟩
      have dn : ∀ c, op_fr K s pr (i + 1) c → op_fr K s pr i c := by
        intro c g
        rcases g with e | ⟨t, g3, g4, g5, g6⟩
        · exact Or.inl e
        · exact Or.inr ⟨t, by omega, g4, g5, g6⟩
      have nxt : ∀ q', q' < 251 → (q' + ma_sm (fun c => W c * val c) i) % 251 = sec % 251 → op_Inv K s pr (ma_F K N (ma_b mask)) val sec i W q' we1 := fun q' g1 g2 =>
        ⟨g1, fun c g3 g4 => I2 c (by omega) (up c g4), fun c g3 => I3 c (by omega), fun c g3 g4 => I4 c (by omega) (fun z => g4 (dn c z)), g2⟩
      refine sw_isLeaf (by omega) (fun z => absurd (hpa.symm.trans z) (ba_m1 (by omega))) (fun _ => ?_)
      refine br_f (by decide) (And.intro iv ?_)
      rw [ec, ew, hsh i (by omega) hk]
      refine br_c (fun hz => ?_) (fun hz => ?_)
      · have : W i = 0 := (nI_eq (by omega) (by decide)).mp (hz.trans nI_0.symm)
        rw [this, Nat.zero_mul, Nat.add_zero] at I5
        exact nm_e (ih W q we1 (by omega) (nxt q I1 I5))
      · have hv : val i % 251 < 251 := Nat.mod_lt _ (by decide)
        have hm : W i * (val i % 251) < 251 * 251 := Nat.mul_lt_mul'' w1 hv
        refine And.intro iv (And.intro iv (And.intro ba_251 (nm_r (e' := nI ((q + W i * (val i % 251)) % 251)) ?_ (nm_e (ih W _ we1 (by omega) (nxt _ (Nat.mod_lt _ (by decide)) ?_))))))
        · exact ba_rem _ (by rw [pk_mul, nI_add]) (by omega)
        · rw [← I5]
          have e1 : (q + W i * (val i % 251)) % 251 % 251 = (q + W i * val i) % 251 := by
            rw [Nat.mod_mod]
            exact ma_am rfl (ma_mm rfl (Nat.mod_mod _ _))
          have e2 := ma_am e1 (rfl : ma_sm (fun c => W c * val c) i % 251 = ma_sm (fun c => W c * val c) i % 251)
          rw [e2]
          congr 1
          omega
    · obtain ⟨hpa, hth⟩ := hF.2.2.2.1 i (by omega) (by omega)
      have hw := (hF.2.1 i (by omega)).2 (by omega)
      refine sw_isLeaf (by omega) (fun _ => ?_) (fun z => absurd hpa z)
      refine br_t rfl ?_
      have hxc : ∀ j, j < N i → (pl (ma_ch K N i j)).toNatClampNeg - 1 = j := by
        intro j hj
        rw [(hF.2.2.2.2.1 i (by omega) (by omega) j hj).2, nI_clamp (show j + 1 < 2 ^ 31 by omega)]
        omega
      refine op_wc (k := K i) (w := W i) (x := fun c => (pl c).toNatClampNeg - 1) (f := ma_F K N (ma_b mask)) (by omega) (by omega) hth (fun c g1 g2 => ?_) (fun c d g1 g2 g3 g4 g5 => ?_) (fun c g1 => ⟨hfu c (by omega), ma_F01 hF.2.1 mask (by omega)⟩) ew w1 (fun C we2 hC g1 g2 => ?_)
      · obtain ⟨j, hj, e⟩ := hF.2.2.2.2.2 i (by omega) (by omega) c g1 g2
        have := (hF.2.2.2.2.1 i (by omega) (by omega) j hj).2
        rw [← e] at this
        show pl c = nI ((pl c).toNatClampNeg - 1 + 1) ∧ (pl c).toNatClampNeg - 1 < 5
        rw [this, nI_clamp (show j + 1 < 2 ^ 31 by omega)]
        exact ⟨rfl, by omega⟩
      · obtain ⟨j, hj, e⟩ := hF.2.2.2.2.2 i (by omega) (by omega) c g1 g3
        obtain ⟨j2, hj2, e2⟩ := hF.2.2.2.2.2 i (by omega) (by omega) d g2 g4
        have g6 : (pl c).toNatClampNeg - 1 = (pl d).toNatClampNeg - 1 := g5
        rw [e, e2, hxc j hj, hxc j2 hj2] at g6
        rw [e, e2, g6]
      · refine nm_e (ih (fun c => if pr c = nI i then W i * lz_w C ((pl c).toNatClampNeg - 1 + 1) % 251 else W c) q we2 (by omega) ⟨I1, fun c q1 q2 => ?_, fun c q1 => ?_, fun c q1 q2 => ?_, ?_⟩)
        · show we2 c = nI (if pr c = nI i then _ else W c)
          by_cases e : pr c = nI i
          · rw [if_pos e]; exact g1 c q1 e
          · rw [if_neg e, g2 c (fun z => e z.2)]
            refine I2 c (by omega) ?_
            rcases q2 with z | ⟨t, g3, g4, g5, g6⟩
            · exact Or.inl z
            · have : t ≠ i := fun z => e (by rw [← z]; exact g6)
              exact Or.inr ⟨t, by omega, g4, g5, g6⟩
        · show (if pr c = nI i then _ else W c) < 251 ∧ ((if pr c = nI i then _ else W c) ≠ 0 → _)
          by_cases e : pr c = nI i
          · rw [if_pos e]
            refine ⟨Nat.mod_lt _ (by decide), fun hne => ?_⟩
            obtain ⟨j, hj, ej⟩ := hF.2.2.2.2.2 i (by omega) (by omega) c q1 e
            have hcx : (pl c).toNatClampNeg - 1 = j := by rw [ej]; exact hxc j hj
            rw [hcx] at hne
            have hh : lz_has C (j + 1) = true := by
              cases hb : lz_has C (j + 1) with
              | true => rfl
              | false =>
                refine absurd ?_ hne
                have : lz_w C (j + 1) = 0 := by rw [lz_w, hb]; rfl
                rw [this, Nat.mul_zero]
            obtain ⟨c2, k1, k2, k3, k4⟩ := hC.2.2 j (by omega) hh
            obtain ⟨j2, hj2, ej2⟩ := hF.2.2.2.2.2 i (by omega) (by omega) c2 k1 k2
            have k5 : (pl c2).toNatClampNeg - 1 = j := k4
            rw [ej2, hxc j2 hj2] at k5
            rw [ej, ← k5, ← ej2]
            exact k3
          · rw [if_neg e]; exact I3 c (by omega)
        · show (if pr c = nI i then _ else W c) = 0
          have e : ¬ pr c = nI i := fun z => q2 (Or.inr ⟨i, by omega, by omega, by omega, z⟩)
          rw [if_neg e]
          refine I4 c (by omega) (fun z => q2 ?_)
          rcases z with z | ⟨t, g3, g4, g5, g6⟩
          · exact Or.inl z
          · exact Or.inr ⟨t, by omega, g4, g5, g6⟩
        · have L := op_lag (w := W i) (x := fun c => (pl c).toNatClampNeg - 1) hF hG (by omega) (by omega) hC (fun hne => ?_) hxc
          · have e : ma_sm (fun c => (if pr c = nI i then W i * lz_w C ((pl c).toNatClampNeg - 1 + 1) % 251 else W c) * val c) i = ma_sm (fun c => W c * val c) i + ma_sm (fun c => if pr c = nI i then (W i * lz_w C ((pl c).toNatClampNeg - 1 + 1) % 251) * val c else 0) i := by
              rw [← ma_sm_add]
              refine ma_sm_congr (fun c hc => ?_)
              show (if pr c = nI i then _ else W c) * val c = W c * val c + if pr c = nI i then _ else 0
              by_cases e : pr c = nI i
              · rw [if_pos e, if_pos e]
                have : W c = 0 := I4 c (by omega) (fun z => by
                  rcases z with z | ⟨t, g3, g4, g5, g6⟩
                  · omega
                  · have := (nI_eq (by omega) (by omega)).mp (e.symm.trans g6)
                    omega)
                rw [this, Nat.zero_mul, Nat.zero_add]
              · rw [if_neg e, if_neg e, Nat.add_zero]
            have e2 : (q + ma_sm (fun c => (if pr c = nI i then W i * lz_w C ((pl c).toNatClampNeg - 1 + 1) % 251 else W c) * val c) i) % 251 = sec % 251 := by
              rw [e, ← I5]
              exact ma_am rfl (ma_am rfl L)
            exact e2
          · have := w2 hne
            rw [ma_F_eq hF.2.1 _ (by omega), ma_vl, if_neg hk] at this
            by_cases hle : K i ≤ ma_sm (fun j => ma_F K N (ma_b mask) (ma_ch K N i j)) (N i)
            · exact hle
            · rw [if_neg hle] at this; omega
theorem op_put (hF : fm_ok K N s pa th pr pl) (h1 : ma_hh K N s = 1) (h0 : 0 < s) {mask : Int32} {val : Nat → Nat} {sec : Nat} (hG : ma_Gd K N s val sec) (hsec : sec < 251) (hsh : ∀ c, c < s → K c = 0 → sh c = nI (val c % 251)) (hfu : ∀ c, c < s → fu c = nI (ma_F K N (ma_b mask) c)) (htop : ma_F K N (ma_b mask) (s - 1) = 1) {post : Int32 → SX → Prop}
    (hp : ∀ we', post (nI sec) (m, h, nI s, rnd, pa, th, pr, pl, st, sh, de, we', fu)) :
    wpX_putTogether post (m, h, nI s, rnd, pa, th, pr, pl, st, sh, de, we, fu) := by
  have hs24 := hF.1
  obtain ⟨i, rfl⟩ : ∃ i, s = i + 1 := ⟨s - 1, by omega⟩
  unfold wpX_putTogether
  dsimp only
  rw [nI_pred]
  refine And.intro (vp_in_nI (by omega) (by decide)) (nm_r (e' := upd we i (nI 1)) (by rw [nI_clamp (show i < 2 ^ 31 by omega)]; rfl) (nm_e (Exists.intro (i + 1 + 1) ?_)))
  have := op_21 hF h1 hG hsec hsh hfu hp (i + 1) (fun c => if c = i then 1 else 0) 0 (upd we i (nI 1)) (Nat.le_refl _) ⟨by decide, fun c g1 g2 => ?_, fun c g1 => ?_, fun c g1 g2 => ?_, ?_⟩
  · rw [pk_m1] at this
    exact this
  · rcases g2 with e | ⟨t, g3, g4, _⟩
    · have e2 : c = i := e
      show upd we i (nI 1) c = nI (if c = i then 1 else 0)
      rw [if_pos e2, e2]; exact pk_us
    · exact absurd g4 (by omega)
  · show (if c = i then 1 else 0) < 251 ∧ ((if c = i then 1 else 0) ≠ 0 → _)
    by_cases e : c = i
    · rw [if_pos e, e]; exact ⟨by decide, fun _ => htop⟩
    · rw [if_neg e]; exact ⟨by decide, fun z => absurd rfl z⟩
  · show (if c = i then 1 else 0) = 0
    have hne : ¬ c = i := fun z => g2 (Or.inl z)
    rw [if_neg hne]
  · have e : ma_sm (fun c => (if c = i then 1 else 0) * val c) (i + 1) = ma_sm (fun c => if c = i then val c else 0) (i + 1) := ma_sm_congr (fun c _ => by
      show (if c = i then 1 else 0) * val c = if c = i then val c else 0
      by_cases e : c = i
      · rw [if_pos e, if_pos e, Nat.one_mul]
      · rw [if_neg e, if_neg e, Nat.zero_mul])
    have e2 : (0 + ma_sm (fun c => (if c = i then 1 else 0) * val c) (i + 1)) % 251 = sec % 251 := by
      rw [e, ma_sm_one val i (i + 1), if_pos (by omega), Nat.zero_add]
      exact hG.1
    exact e2
end OP
end
section
/-! the relation -/
def rl_Sh (K N : Nat → Nat) (M H : Nat) (pa th pr pl st : Nat → Int32) : Prop :=
  M ≤ 24 ∧ ma_wf K N M ∧ H = ma_hh K N M ∧ (∀ i, i < M → K i = 0 → pa i = nI (N i)) ∧ (∀ i, i < M → 0 < K i → pa i = -1 ∧ th i = nI (K i)) ∧
  (∀ t, t < M → 0 < K t → ∀ j, j < N t → pr (ma_ch K N t j) = nI t ∧ pl (ma_ch K N t j) = nI (j + 1)) ∧
  (∀ p, p < H → pr (ma_sk K N M p) = -1) ∧ (∀ p, p < H → st p = nI (ma_sk K N M p))
def rl_Sd (K N : Nat → Nat) (M s c : Nat) (sh sK sN : Nat → Int32) : Prop :=
  s ≤ M ∧ c < 251 ∧ (0 < s → ma_hh K N s = 1 ∧ (∀ i, i < s → sK i = nI (K i) ∧ sN i = nI (N i)) ∧ ∃ val, ma_Gd K N s val c ∧ ∀ i, i < s → K i = 0 → sh i = nI (val i % 251))
def rl_Y (K N : Nat → Nat) (M : Nat) (ka na : Nat → Int32) : Prop := ∀ i, i < M → ka i = nI (K i) ∧ na i = nI (N i)
def i_Rel (k : Nat) (u : SX) (v : SY) : Prop := ∃ (M H s c : Nat) (rnd : Int64) (pa th pr pl st sh de we fu ka na sK sN ys : Nat → Int32) (K N : Nat → Nat),
  u = (nI M, nI H, nI s, rnd, pa, th, pr, pl, st, sh, de, we, fu) ∧ v = (nI M, nI H, nI s, nI c, ka, na, sK, sN, ys) ∧ rl_Sh K N M H pa th pr pl st ∧ rl_Y K N M ka na ∧ rl_Sd K N M s c sh sK sN
theorem rl_mk {k M H s c : Nat} {rnd : Int64} {pa th pr pl st sh de we fu ka na sK sN ys : Nat → Int32} {K N : Nat → Nat} (R : rl_Sh K N M H pa th pr pl st) (RY : rl_Y K N M ka na) (RS : rl_Sd K N M s c sh sK sN) :
    i_Rel k (nI M, nI H, nI s, rnd, pa, th, pr, pl, st, sh, de, we, fu) (nI M, nI H, nI s, nI c, ka, na, sK, sN, ys) :=
  ⟨M, H, s, c, rnd, pa, th, pr, pl, st, sh, de, we, fu, ka, na, sK, sN, ys, K, N, rfl, rfl, R, RY, RS⟩
theorem i_up {k : Nat} {u : SX} {v : SY} (h : i_Rel k u v) : i_Rel (k + 3) u v := h
theorem rl_0 (K N : Nat → Nat) (pa th pr pl st : Nat → Int32) : rl_Sh K N 0 0 pa th pr pl st :=
  ⟨by decide, fun i hi => absurd hi (Nat.not_lt_zero _), rfl, fun i hi => absurd hi (Nat.not_lt_zero _), fun i hi => absurd hi (Nat.not_lt_zero _), fun i hi => absurd hi (Nat.not_lt_zero _), fun i hi => absurd hi (Nat.not_lt_zero _), fun i hi => absurd hi (Nat.not_lt_zero _)⟩
theorem i_vc0 (k0 : Int32) : wpX_init (fun u => wpY_init (fun v => i_Rel 1 u v) k0) k0 :=
  rl_mk (k := 1) (M := 0) (H := 0) (s := 0) (c := 0) (rnd := k0.toInt64) (K := fun _ => 0) (N := fun _ => 0) (rl_0 _ _ _ _ _ _ _) (fun i hi => absurd hi (Nat.not_lt_zero _)) ⟨Nat.le_refl _, by decide, fun z => absurd z (Nat.not_lt_zero _)⟩
/-- the part that is shared, or any part -/
theorem rl_fm {K N : Nat → Nat} {M H : Nat} {pa th pr pl st : Nat → Int32} (R : rl_Sh K N M H pa th pr pl st) {s : Nat} (hs : s ≤ M) : fm_ok K N s pa th pr pl := by
  obtain ⟨R1, R2, R3, R4, R5, R6, R7, R8⟩ := R
  refine ⟨by omega, fun i hi => R2 i (by omega), fun i hi => R4 i (by omega), fun i hi => R5 i (by omega), fun t ht => R6 t (by omega), fun t ht hk c hc e => ?_⟩
  rcases ma_cover R2 M (Nat.le_refl _) c (by omega) with ⟨p, hp, ep⟩ | ⟨t', ht', hk', j, hj, ej⟩
  · have := R7 p (by omega)
    rw [← ep, e] at this
    exact absurd this (ba_m1 (by omega))
  · have := (R6 t' ht' hk' j hj).1
    rw [← ej, e] at this
    have e2 : t = t' := (nI_eq (by omega) (by omega)).mp this
    subst e2
    exact ⟨j, hj, ej⟩
def rl_u (f : Nat → Nat) (M k : Nat) : Nat → Nat := fun i => if i = M then k else f i
theorem rl_us {f : Nat → Nat} {M k : Nat} : rl_u f M k M = k := if_pos rfl
theorem rl_un {f : Nat → Nat} {M k i : Nat} (h : i ≠ M) : rl_u f M k i = f i := if_neg h
theorem rl_hs {K N : Nat → Nat} {M k n : Nat} {i : Nat} (hi : i ≤ M) : ma_hh (rl_u K M k) (rl_u N M n) i = ma_hh K N i ∧ ma_sk (rl_u K M k) (rl_u N M n) i = ma_sk K N i :=
  ma_hs_congr i (fun c hc => ⟨rl_un (by omega), rl_un (by omega)⟩)
theorem rl_ch {K N : Nat → Nat} {M k n : Nat} {t : Nat} (ht : t < M) (j : Nat) : ma_ch (rl_u K M k) (rl_u N M n) t j = ma_ch K N t j := by
  obtain ⟨e1, e2⟩ := rl_hs (K := K) (N := N) (k := k) (n := n) (i := t) (by omega : t ≤ M)
  rw [ma_ch, ma_ch, e1, e2, rl_un (by omega)]
theorem rl_push {K N : Nat → Nat} {M H : Nat} {pa th pr pl st : Nat → Int32} (R : rl_Sh K N M H pa th pr pl st) (hM : M < 24) {k n a : Nat} (hk : (k = 0 ∧ n < 8 ∧ H < 6 ∧ a = 0) ∨ (0 < k ∧ k ≤ n ∧ n ≤ 5 ∧ n ≤ H ∧ a = n)) {p q : Int32} (hp0 : k = 0 → p = nI n) (hp1 : 0 < k → p = -1 ∧ q = nI k) {pr1 pl1 : Nat → Int32}
    (g1 : ∀ j, j < a → pr1 (ma_sk K N M (H - a + j)) = nI M ∧ pl1 (ma_sk K N M (H - a + j)) = nI (j + 1)) (g2 : ∀ c, (∀ j, j < a → c ≠ ma_sk K N M (H - a + j)) → pr1 c = pr c ∧ pl1 c = pl c) :
    rl_Sh (rl_u K M k) (rl_u N M n) (M + 1) (H - a + 1) (upd pa M p) (upd th M q) (upd pr1 M (-1)) (upd pl1 M (-1)) (upd st (H - a) (nI M)) := by
  obtain ⟨R1, R2, R3, R4, R5, R6, R7, R8⟩ := R
  have hs := fun (i : Nat) (hi : i ≤ M) => rl_hs (K := K) (N := N) (k := k) (n := n) (i := i) hi
  have har : ma_ar (rl_u K M k) (rl_u N M n) M = a := by
    rw [ma_ar, rl_us, rl_us]
    by_cases e : k = 0
    · rw [if_pos e]; omega
    · rw [if_neg e]; omega
  have hskM : ∀ pp, ma_sk (rl_u K M k) (rl_u N M n) (M + 1) pp = if pp = H - a then M else ma_sk K N M pp := by
    intro pp
    rw [ma_sk, har, (hs M (Nat.le_refl _)).1, (hs M (Nat.le_refl _)).2, ← R3]
  have haH : a ≤ H := by omega
  refine ⟨by omega, fun i hi => ?_, ?_, fun i hi => ?_, fun i hi => ?_, fun t ht hkt j hj => ?_, fun pp hpp => ?_, fun pp hpp => ?_⟩
  · by_cases e : i = M
    · subst e
      rw [rl_us, rl_us, (hs i (Nat.le_refl _)).1, ← R3]
      exact ⟨fun z => by omega, fun z => by omega⟩
    · rw [rl_un e, rl_un e, (hs i (by omega)).1]
      exact R2 i (by omega)
  · rw [ma_hh, har, (hs M (Nat.le_refl _)).1, ← R3]
  · by_cases e : i = M
    · subst e
      rw [rl_us, rl_us]
      exact fun z => by rw [pk_us]; exact hp0 z
    · rw [rl_un e, rl_un e, pk_un e]; exact R4 i (by omega)
  · by_cases e : i = M
    · subst e
      rw [rl_us]
      exact fun z => by rw [pk_us, pk_us]; exact hp1 z
    · rw [rl_un e, pk_un e, pk_un e]; exact R5 i (by omega)
  · by_cases e : t = M
    · subst e
      rw [rl_us] at hkt hj
      have e2 : a = n := by omega
      subst e2
      have e3 : ma_ch (rl_u K t k) (rl_u N t a) t j = ma_sk K N t (H - a + j) := by
        rw [ma_ch, (hs t (Nat.le_refl _)).1, (hs t (Nat.le_refl _)).2, rl_us, ← R3]
      have hlt := ma_sk_lt R2 t (Nat.le_refl _) (H - a + j) (by omega)
      rw [e3, pk_un (by omega), pk_un (by omega)]
      exact g1 j hj
    · rw [rl_un e] at hkt hj
      have hlt := ma_ch_lt R2 (t := t) (by omega) hkt hj
      rw [rl_ch (by omega) j, pk_un (by omega), pk_un (by omega)]
      have h3 := R6 t (by omega) hkt j hj
      have h4 := g2 (ma_ch K N t j) (fun j2 hj2 z => by
        have := R7 (H - a + j2) (by omega)
        rw [← z, h3.1] at this
        exact absurd this (ba_m1 (by omega)))
      rw [h4.1, h4.2]
      exact h3
  · rw [hskM]
    by_cases e : pp = H - a
    · rw [if_pos e]; exact pk_us
    · have hlt := ma_sk_lt R2 M (Nat.le_refl _) pp (by omega)
      rw [if_neg e, pk_un (by omega)]
      rw [(g2 (ma_sk K N M pp) (fun j2 hj2 z => by
        have := ma_sk_inj R2 (Nat.le_refl _) (by omega) (by omega) z
        omega)).1]
      exact R7 pp (by omega)
  · rw [hskM]
    by_cases e : pp = H - a
    · rw [if_pos e, e]; exact pk_us
    · rw [if_neg e, pk_un e]; exact R8 pp (by omega)
theorem rl_pushY {K N : Nat → Nat} {M : Nat} {ka na : Nat → Int32} (R : rl_Y K N M ka na) (k n : Nat) : rl_Y (rl_u K M k) (rl_u N M n) (M + 1) (upd ka M (nI k)) (upd na M (nI n)) := by
  intro i hi
  by_cases e : i = M
  · rw [e, rl_us, rl_us]; exact ⟨pk_us, pk_us⟩
  · rw [rl_un e, rl_un e, pk_un e, pk_un e]; exact R i (by omega)
theorem rl_pushS {K N : Nat → Nat} {M s c : Nat} {sh sK sN : Nat → Int32} (R : rl_Sd K N M s c sh sK sN) (k n : Nat) : rl_Sd (rl_u K M k) (rl_u N M n) (M + 1) s c sh sK sN := by
  obtain ⟨R1, R2, R3⟩ := R
  refine ⟨by omega, R2, fun h0 => ?_⟩
  obtain ⟨h1, h2, val, h3, h4⟩ := R3 h0
  refine ⟨(rl_hs (by omega)).1.trans h1, fun i hi => ?_, val, ⟨h3.1, fun t ht hk => ?_⟩, fun i hi hk => ?_⟩
  · rw [rl_un (by omega), rl_un (by omega)]; exact h2 i hi
  · rw [rl_un (by omega)] at hk
    obtain ⟨a, a0, ha⟩ := h3.2 t ht hk
    refine ⟨a, a0, fun j hj => ?_⟩
    rw [rl_un (by omega)] at hj
    rw [rl_ch (by omega) j, rl_un (by omega)]
    exact ha j hj
  · rw [rl_un (by omega)] at hk
    exact h4 i hi hk
theorem rl_ne {a b : Nat} (h : a ≠ b) (ha : a < 2 ^ 31) (hb : b < 2 ^ 31) : ¬ nI a = nI b := fun e => h ((nI_eq ha hb).mp e)
theorem ry_node {post : Int32 → SY → Prop} {M : Nat} {hh S c : Int32} {ka na sK sN ys : Nat → Int32} {p q : Int32} (hM : M < 24) (hp : post hh (nI (M + 1), hh, S, c, upd ka M p, upd na M q, sK, sN, ys)) : wpY_node post (nI M, hh, S, c, ka, na, sK, sN, ys) p q := by
  have i1 : vp_in (nI M) 24 := vp_in_nI hM (by decide)
  have e1 := nI_clamp (show M < 2 ^ 31 by omega)
  refine And.intro i1 (nm_r (e' := upd ka M p) (by rw [e1]) ?_)
  exact And.intro i1 (nm_r (e' := upd na M q) (by rw [e1]) (nm_r (nI_1 M) hp))
theorem i_vc_leaf {k : Nat} {u : SX} {v : SY} (I : i_Rel k u v) (hk : k + 3 ≤ 1537) (v1 : Int32) : wpX_leaf (fun r u' => wpY_leaf (fun r' v' => r' = r ∧ i_Rel (k + 3) u' v') v v1) u v1 := by
  obtain ⟨M, H, s, c, rnd, pa, th, pr, pl, st, sh, de, we, fu, ka, na, sK, sN, ys, K, N, rfl, rfl, R, RY, RS⟩ := I
  have keep := rl_mk (k := k + 3) (rnd := rnd) (de := de) (we := we) (fu := fu) (ys := ys) R RY RS
  have hM24 := R.1
  have hH6 : H ≤ 6 := by rw [R.2.2.1]; exact ma_hh_le R.2.1 M (Nat.le_refl _)
  by_cases h0 : v1 < 0
  · exact br_t h0 (br_t h0 ⟨rfl, keep⟩)
  · obtain ⟨p, hp, rfl⟩ := nI_of h0
    by_cases h8 : p < 8
    · have y7 : nI p ≤ 7 := nI_le (b := 7) (by omega) (by decide)
      refine br_f h0 (br_t (nI_lt (b := 8) h8 (by decide)) ?_)
      by_cases hM : M < 24
      · refine br_t (nI_lt (b := 24) hM (by decide)) ?_
        have yM : ¬ nI M = 24 := rl_ne (b := 24) (by omega) (by omega) (by decide)
        by_cases hH : H < 6
        · refine br_t (nI_lt (b := 6) hH (by decide)) ?_
          have yH : ¬ nI H = 6 := rl_ne (b := 6) (by omega) (by omega) (by decide)
          refine sw_push hM hH ?_
          refine br_f h0 (br_t y7 (br_f yM (br_f yH (nm_r (nI_1 H) ?_))))
          refine ry_node hM ⟨rfl, ?_⟩
          have P := rl_push (k := 0) (n := p) (a := 0) (p := nI p) (q := -1) (pr1 := pr) (pl1 := pl) R hM (Or.inl ⟨rfl, h8, hH, rfl⟩) (fun _ => rfl) (fun z => absurd z (by omega)) (fun j hj => absurd hj (Nat.not_lt_zero _)) (fun _ _ => ⟨rfl, rfl⟩)
          exact rl_mk P (rl_pushY RY 0 p) (rl_pushS RS 0 p)
        · have e6 : H = 6 := by omega
          refine br_f (nI_nlt (b := 6) (by omega) (by omega)) ?_
          exact br_f h0 (br_t y7 (br_f yM (br_t (by rw [e6]; rfl) ⟨rfl, keep⟩)))
      · have e24 : M = 24 := by omega
        refine br_f (nI_nlt (b := 24) (by omega) (by omega)) ?_
        exact br_f h0 (br_t y7 (br_t (by rw [e24]; rfl) ⟨rfl, keep⟩))
    · have n8 : ¬ nI p < 8 := nI_nlt (b := 8) (by omega) (by omega)
      have n7 : ¬ nI p ≤ 7 := nI_ge (a := 7) (by omega) (by omega)
      exact br_f h0 (br_f n8 (br_f h0 (br_f n7 ⟨rfl, keep⟩)))
theorem i_vc_gate {k : Nat} {u : SX} {v : SY} (I : i_Rel k u v) (hk : k + 3 ≤ 1537) (v1 : Int32) (v2 : Int32) : wpX_gate (fun r u' => wpY_gate (fun r' v' => r' = r ∧ i_Rel (k + 3) u' v') v v1 v2) u v1 v2 := by
  obtain ⟨M, H, s, c, rnd, pa, th, pr, pl, st, sh, de, we, fu, ka, na, sK, sN, ys, K, N, rfl, rfl, R, RY, RS⟩ := I
  have keep := rl_mk (k := k + 3) (rnd := rnd) (de := de) (we := we) (fu := fu) (ys := ys) R RY RS
  have hM24 := R.1
  have hH6 : H ≤ 6 := by rw [R.2.2.1]; exact ma_hh_le R.2.1 M (Nat.le_refl _)
  by_cases a1 : v2 < 1
  · exact br_t a1 (br_t a1 ⟨rfl, keep⟩)
  by_cases a2 : 5 < v2
  · exact br_f a1 (br_t a2 (br_f a1 (br_t a2 ⟨rfl, keep⟩)))
  by_cases a3 : v1 < 1
  · exact br_f a1 (br_f a2 (br_t a3 (br_f a1 (br_f a2 (br_t a3 ⟨rfl, keep⟩)))))
  by_cases a4 : v1 ≤ v2
  · obtain ⟨n, hn, rfl⟩ := nI_of (x := v2) (fun z => a1 (Int32.lt_trans z (by decide)))
    obtain ⟨q, hq, rfl⟩ := nI_of (x := v1) (fun z => a3 (Int32.lt_trans z (by decide)))
    have b1 : 1 ≤ n := by
      rcases Nat.eq_zero_or_pos n with z | z
      · rw [z] at a1; exact absurd (by decide) a1
      · exact z
    have b2 : n ≤ 5 := by
      rcases Nat.lt_or_ge 5 n with z | z
      · exact absurd (nI_lt (a := 5) z hn) a2
      · exact z
    have b3 : 1 ≤ q := by
      rcases Nat.eq_zero_or_pos q with z | z
      · rw [z] at a3; exact absurd (by decide) a3
      · exact z
    have b4 : q ≤ n := (nI_leI hq hn).mp a4
    refine br_f a1 (br_f a2 (br_f a3 (br_t a4 ?_)))
    by_cases hM : M < 24
    · refine br_t (nI_lt (b := 24) hM (by decide)) ?_
      have yM : ¬ nI M = 24 := rl_ne (b := 24) (by omega) (by omega) (by decide)
      by_cases hH : n ≤ H
      · have xH : nI n ≤ nI H := nI_le hH (by omega)
        refine br_t xH ?_
        have hsp : ∀ p, p < H - n + n → st p = nI (ma_sk K N M p) ∧ ma_sk K N M p < 24 := by
          intro p hp
          have h1 := ma_sk_lt R.2.1 M (Nat.le_refl _) p (by have := R.2.2.1; omega)
          exact ⟨R.2.2.2.2.2.2.2 p (by omega), by omega⟩
        have hT := fun (post : SX → Prop) => sw_take (post := post) (s := nI s) (rnd := rnd) (pa := pa) (th := th) (pr := pr) (pl := pl) (st := st) (sh := sh) (de := de) (we := we) (fu := fu) (n := n) (H := H - n) (M := M) (sk := ma_sk K N M) (by omega) hsp (fun p p2 h1 h2 e => ma_sk_inj R.2.1 (Nat.le_refl _) (by have := R.2.2.1; omega) (by have := R.2.2.1; omega) e)
        rw [show H - n + n = H by omega] at hT
        refine hT _ (fun pr1 pl1 g1 g2 => ?_)
        refine sw_push hM (by omega) ?_
        have yH : nI H - nI n + 1 = nI (H - n + 1) := by rw [pk_sub hH, nI_1]
        refine br_f a1 (br_f a2 (br_f a3 (br_t a4 (br_f yM (br_t xH (nm_r yH ?_))))))
        refine ry_node hM ⟨rfl, ?_⟩
        have P := rl_push (k := q) (n := n) (a := n) (p := -1) (q := nI q) (pr1 := pr1) (pl1 := pl1) R hM (Or.inr ⟨b3, b4, b2, hH, rfl⟩) (fun z => absurd z (by omega)) (fun _ => ⟨rfl, rfl⟩) g1 g2
        exact rl_mk P (rl_pushY RY q n) (rl_pushS RS q n)
      · have xH : ¬ nI n ≤ nI H := nI_ge (by omega) hn
        exact br_f xH (br_f a1 (br_f a2 (br_f a3 (br_t a4 (br_f yM (br_f xH ⟨rfl, keep⟩))))))
    · have e24 : M = 24 := by omega
      refine br_f (nI_nlt (b := 24) (by omega) (by omega)) ?_
      exact br_f a1 (br_f a2 (br_f a3 (br_t a4 (br_t (by rw [e24]; rfl) ⟨rfl, keep⟩))))
  · exact br_f a1 (br_f a2 (br_f a3 (br_f a4 (br_f a1 (br_f a2 (br_f a3 (br_f a4 ⟨rfl, keep⟩)))))))
theorem i_vc_clear {k : Nat} {u : SX} {v : SY} (I : i_Rel k u v) (hk : k + 3 ≤ 1537) : wpX_clear (fun u' => wpY_clear (fun v' => i_Rel (k + 3) u' v') v) u := by
  obtain ⟨M, H, s, c, rnd, pa, th, pr, pl, st, sh, de, we, fu, ka, na, sK, sN, ys, K, N, rfl, rfl, R, RY, RS⟩ := I
  unfold wpX_clear
  dsimp only
  refine sw_forget (fun sh' _ => ?_)
  exact rl_mk (k := k + 3) (M := 0) (H := 0) (s := 0) (c := c) (K := K) (N := N) (rl_0 _ _ _ _ _ _ _) (fun i hi => absurd hi (Nat.not_lt_zero _)) ⟨Nat.le_refl _, RS.2.1, fun z => absurd z (Nat.not_lt_zero _)⟩
end
section
/-! share, add, scale, refresh, open -/
theorem vc_250 {p : Nat} (h : p < 251) : nI p ≤ 250 := nI_le (b := 250) (by omega) (by decide)
theorem vc_n250 {p : Int32} (h : (251 : Int32) ≤ p) : ¬ p ≤ 250 := fun z => absurd (Int32.le_trans h z) (by decide)
theorem vc_n0 {p : Int32} (h : (251 : Int32) ≤ p) : ¬ p < 0 := fun z => absurd (Int32.lt_of_le_of_lt h z) (by decide)
theorem sy_27 {post : Int32 → SY → Prop} {m h S c x : Int32} {ka na ys : Nat → Int32} (hp : ∀ sK' sN', (∀ j, j < 24 → sK' j = ka j ∧ sN' j = na j) → post 0 (m, h, m, x, ka, na, sK', sN', ys)) :
    ∀ d i sK1 sN1, i + d = 24 → (∀ j, j < i → sK1 j = ka j ∧ sN1 j = na j) → wY_share_27 post x m h S c (d + 1) (nI i) ka na sK1 sN1 ys := by
  intro d
  induction d with
  | zero =>
    intro i sK1 sN1 hi h1
    exact br_t (nI_le (a := 24) (by omega) (by omega)) (hp sK1 sN1 (fun j hj => h1 j (by omega)))
  | succ d ih =>
    intro i sK1 sN1 hi h1
    have iv : vp_in (nI i) 24 := vp_in_nI (by omega) (by decide)
    have ec := nI_clamp (show i < 2 ^ 31 by omega)
    refine br_f (nI_ge (b := 24) (by omega) (by omega)) (And.intro iv (And.intro iv ?_))
    refine nm_r (e' := upd sK1 i (ka i)) (by rw [ec]) (And.intro iv (And.intro iv ?_))
    refine nm_r (e' := upd sN1 i (na i)) (by rw [ec]) (nm_r (nI_1 i) ?_)
    refine ih (i + 1) _ _ (by omega) (fun j hj => ?_)
    by_cases e : j = i
    · rw [e]; exact ⟨pk_us, pk_us⟩
    · rw [pk_un e, pk_un e]; exact h1 j (by omega)
theorem i_vc_share {k : Nat} {u : SX} {v : SY} (I : i_Rel k u v) (hk : k + 3 ≤ 1537) (v1 : Int32) : wpX_share (fun r u' => wpY_share (fun r' v' => r' = r ∧ i_Rel (k + 3) u' v') v v1) u v1 := by
  obtain ⟨M, H, s, c, rnd, pa, th, pr, pl, st, sh, de, we, fu, ka, na, sK, sN, ys, K, N, rfl, rfl, R, RY, RS⟩ := I
  have keep := rl_mk (k := k + 3) (rnd := rnd) (de := de) (we := we) (fu := fu) (ys := ys) R RY RS
  have hM24 := R.1
  by_cases hH : nI H = 1
  · have h1 : H = 1 := (nI_eq (b := 1) (by
      have := ma_hh_le R.2.1 M (Nat.le_refl _)
      have := R.2.2.1
      omega) (by decide)).mp hH
    have hh1 : ma_hh K N M = 1 := R.2.2.1.symm.trans h1
    have h0 : 0 < M := by
      rcases Nat.eq_zero_or_pos M with z | z
      · rw [z] at hh1; exact absurd hh1 (by rw [ma_hh]; decide)
      · exact z
    refine br_t hH (sw_isSecret (fun z => ?_) (fun p hp e => ?_) (fun z => ?_))
    · exact br_t rfl (br_t hH (br_t z ⟨rfl, keep⟩))
    · subst e
      refine br_f (by decide) (sw_forget (fun sh' hz => ?_))
      refine dl_deal (rl_fm R (Nat.le_refl M)) hh1 h0 (sg := fun _ => 0) (fun i hi _ => ⟨hz i (by omega), by decide⟩) hp (fun r sh2 de2 f hG hsh => ?_)
      refine br_t hH (br_f (nI_pos (by omega)) (br_t (vc_250 hp) (Exists.intro 25 ?_)))
      refine sy_27 (fun sK' sN' hc => ?_) 24 0 sK sN (by omega) (fun j hj => absurd hj (Nat.not_lt_zero _))
      refine ⟨rfl, rl_mk R RY ⟨Nat.le_refl _, hp, fun _ => ⟨hh1, fun i hi => ?_, f, hG, fun i hi hk0 => ?_⟩⟩⟩
      · rw [(hc i (by omega)).1, (hc i (by omega)).2]; exact RY i hi
      · have := hsh i hi hk0
        rw [Nat.zero_add] at this
        exact this
    · exact br_t rfl (br_t hH (br_f (vc_n0 z) (br_f (vc_n250 z) ⟨rfl, keep⟩)))
  · exact br_f hH (br_f hH ⟨rfl, keep⟩)
theorem i_vc_add {k : Nat} {u : SX} {v : SY} (I : i_Rel k u v) (hk : k + 3 ≤ 1537) (v1 : Int32) : wpX_add (fun r u' => wpY_add (fun r' v' => r' = r ∧ i_Rel (k + 3) u' v') v v1) u v1 := by
  obtain ⟨M, H, s, c, rnd, pa, th, pr, pl, st, sh, de, we, fu, ka, na, sK, sN, ys, K, N, rfl, rfl, R, RY, RS⟩ := I
  have keep := rl_mk (k := k + 3) (rnd := rnd) (de := de) (we := we) (fu := fu) (ys := ys) R RY RS
  have hM24 := R.1
  have hsM := RS.1
  have hc := RS.2.1
  unfold wpX_add
  dsimp only
  refine sw_isSecret (fun z => ?_) (fun p hp e => ?_) (fun z => ?_)
  · exact br_t rfl (br_t z ⟨rfl, keep⟩)
  · subst e
    refine br_f (by decide) ?_
    by_cases hs : s = 0
    · have : nI s = 0 := by rw [hs]; rfl
      exact br_t this (br_f (nI_pos (by omega)) (br_t (vc_250 hp) (br_t this ⟨rfl, keep⟩)))
    · have hn : ¬ nI s = 0 := nI_ne0 (by omega) (by omega)
      obtain ⟨h1, h2, val, h3, h4⟩ := RS.2.2 (by omega)
      refine br_f hn ?_
      refine dl_deal (rl_fm R hsM) h1 (by omega) (sg := fun i => val i % 251) (fun i hi hk0 => ⟨h4 i hi hk0, Nat.mod_lt _ (by decide)⟩) hp (fun r sh2 de2 f hG hsh => ?_)
      refine br_f (nI_pos (by omega)) (br_t (vc_250 hp) (br_f hn (And.intro ba_251 (nm_r (ba_rem _ (nI_add c p) (by omega)) ⟨rfl, ?_⟩))))
      refine rl_mk R RY ⟨hsM, Nat.mod_lt _ (by decide), fun _ => ⟨h1, h2, fun i => val i + f i, ma_Gd_c (ma_Gd_add h3 hG) (Nat.mod_mod _ _).symm, fun i hi hk0 => ?_⟩⟩
      exact (hsh i hi hk0).trans (congrArg nI (ma_am (Nat.mod_mod _ _) rfl))
  · exact br_t rfl (br_f (vc_n0 z) (br_f (vc_n250 z) ⟨rfl, keep⟩))
theorem i_vc_refresh {k : Nat} {u : SX} {v : SY} (I : i_Rel k u v) (hk : k + 3 ≤ 1537) : wpX_refresh (fun r u' => wpY_refresh (fun r' => r' = r ∧ i_Rel (k + 3) u' v) v) u := by
  obtain ⟨M, H, s, c, rnd, pa, th, pr, pl, st, sh, de, we, fu, ka, na, sK, sN, ys, K, N, rfl, rfl, R, RY, RS⟩ := I
  have keep := rl_mk (k := k + 3) (rnd := rnd) (de := de) (we := we) (fu := fu) (ys := ys) R RY RS
  have hM24 := R.1
  have hsM := RS.1
  have hc := RS.2.1
  by_cases hs : s = 0
  · have : nI s = 0 := by rw [hs]; rfl
    exact br_t this (br_t this ⟨rfl, keep⟩)
  · have hn : ¬ nI s = 0 := nI_ne0 (by omega) (by omega)
    obtain ⟨h1, h2, val, h3, h4⟩ := RS.2.2 (by omega)
    refine br_f hn ?_
    refine dl_deal (num := 0) (rl_fm R hsM) h1 (by omega) (sg := fun i => val i % 251) (fun i hi hk0 => ⟨h4 i hi hk0, Nat.mod_lt _ (by decide)⟩) (by decide) (fun r sh2 de2 f hG hsh => ?_)
    refine br_f hn ⟨rfl, rl_mk R RY ⟨hsM, hc, fun _ => ⟨h1, h2, fun i => val i + f i, ma_Gd_add h3 hG, fun i hi hk0 => ?_⟩⟩⟩
    rw [hsh i hi hk0]
    exact congrArg nI (ma_am (Nat.mod_mod _ _) rfl)
theorem sc_22 {post : Int32 → SX → Prop} {m h : Int32} {rnd : Int64} {pa th pr pl st sh de we fu : Nat → Int32} {K val : Nat → Nat} {s p : Nat} (hs : s ≤ 24) (hp251 : p < 251) (hsh : ∀ i, i < s → K i = 0 → sh i = nI (val i % 251))
    (hp : ∀ sh', (∀ i, i < s → K i = 0 → sh' i = nI (p * val i % 251)) → post 0 (m, h, nI s, rnd, pa, th, pr, pl, st, sh', de, we, fu)) :
    ∀ d i sh1, i + d = s → (∀ j, j < i → K j = 0 → sh1 j = nI (p * val j % 251)) → (∀ j, i ≤ j → sh1 j = sh j) → wX_scale_22 post (nI p) m h (nI s) rnd (d + 1) (nI i) pa th pr pl st sh1 de we fu := by
  intro d
  induction d with
  | zero =>
    intro i sh1 hi h1 h2
    have : i = s := by omega
    subst this
    exact br_t (nI_le (by omega) (by omega)) (hp sh1 h1)
  | succ d ih =>
    intro i sh1 hi h1 h2
    have iv : vp_in (nI i) 24 := vp_in_nI (by omega) (by decide)
    have ec := nI_clamp (show i < 2 ^ 31 by omega)
    refine br_f (nI_ge (by omega) (by omega)) (And.intro iv (And.intro ba_251 (And.intro iv ?_)))
    rw [ec]
    refine nm_e (nm_r (nI_1 i) ?_)
    refine ih (i + 1) _ (by omega) (fun j hj hk0 => ?_) (fun j hj => ?_)
    · by_cases e : j = i
      · have hv : val i % 251 < 251 := Nat.mod_lt _ (by decide)
        have hm : val i % 251 * p < 251 * 251 := Nat.mul_lt_mul'' hv hp251
        rw [e] at hk0 ⊢
        rw [pk_us, h2 i (by omega), hsh i (by omega) hk0, ba_rem _ (pk_mul _ _) (by omega)]
        exact congrArg nI ((ma_mm (Nat.mod_mod _ _) rfl).trans (by rw [Nat.mul_comm]))
      · rw [pk_un e]; exact h1 j (by omega) hk0
    · rw [pk_un (by omega)]; exact h2 j (by omega)
theorem i_vc_scale {k : Nat} {u : SX} {v : SY} (I : i_Rel k u v) (hk : k + 3 ≤ 1537) (v1 : Int32) : wpX_scale (fun r u' => wpY_scale (fun r' v' => r' = r ∧ i_Rel (k + 3) u' v') v v1) u v1 := by
  obtain ⟨M, H, s, c, rnd, pa, th, pr, pl, st, sh, de, we, fu, ka, na, sK, sN, ys, K, N, rfl, rfl, R, RY, RS⟩ := I
  have keep := rl_mk (k := k + 3) (rnd := rnd) (de := de) (we := we) (fu := fu) (ys := ys) R RY RS
  have hM24 := R.1
  have hsM := RS.1
  have hc := RS.2.1
  unfold wpX_scale
  dsimp only
  refine sw_isSecret (fun z => ?_) (fun p hp e => ?_) (fun z => ?_)
  · exact br_t rfl (br_t z ⟨rfl, keep⟩)
  · subst e
    refine br_f (by decide) ?_
    by_cases hs : s = 0
    · have : nI s = 0 := by rw [hs]; rfl
      exact br_t this (br_f (nI_pos (by omega)) (br_t (vc_250 hp) (br_t this ⟨rfl, keep⟩)))
    · have hn : ¬ nI s = 0 := nI_ne0 (by omega) (by omega)
      obtain ⟨h1, h2, val, h3, h4⟩ := RS.2.2 (by omega)
      have hm : c * p < 251 * 251 := Nat.mul_lt_mul'' hc hp
      refine br_f hn (Exists.intro (s + 1) ?_)
      refine sc_22 (K := K) (val := val) (by omega) hp h4 (fun sh' hsh => ?_) s 0 sh (by omega) (fun j hj => absurd hj (Nat.not_lt_zero _)) (fun j _ => rfl)
      refine br_f (nI_pos (by omega)) (br_t (vc_250 hp) (br_f hn (And.intro ba_251 (nm_r (ba_rem _ (pk_mul c p) (by omega)) ⟨rfl, ?_⟩))))
      exact rl_mk R RY ⟨hsM, Nat.mod_lt _ (by decide), fun _ => ⟨h1, h2, fun i => p * val i, ma_Gd_c (ma_Gd_mul p h3) (by rw [Nat.mod_mod, Nat.mul_comm]), hsh⟩⟩
  · exact br_t rfl (br_f (vc_n0 z) (br_f (vc_n250 z) ⟨rfl, keep⟩))
theorem i_vc_open {k : Nat} {u : SX} {v : SY} (I : i_Rel k u v) (hk : k + 3 ≤ 1537) (v1 : Int32) : wpX_open (fun r u' => wpY_open (fun r' v' => r' = r ∧ i_Rel (k + 3) u' v') v v1) u v1 := by
  obtain ⟨M, H, s, c, rnd, pa, th, pr, pl, st, sh, de, we, fu, ka, na, sK, sN, ys, K, N, rfl, rfl, R, RY, RS⟩ := I
  have keep := rl_mk (k := k + 3) (rnd := rnd) (de := de) (we := we) (fu := fu) (ys := ys) R RY RS
  have hM24 := R.1
  have hsM := RS.1
  have hc := RS.2.1
  by_cases hs : s = 0
  · have : nI s = 0 := by rw [hs]; rfl
    exact br_t this (br_t this ⟨rfl, keep⟩)
  · have hn : ¬ nI s = 0 := nI_ne0 (by omega) (by omega)
    obtain ⟨h1, h2, val, h3, h4⟩ := RS.2.2 (by omega)
    have hF := rl_fm R hsM
    have h01 := ma_F01 hF.2.1 v1 (i := s - 1) (by omega)
    refine br_f hn (fx_ful hF (by omega) (fun fu' hfu => ?_))
    refine pk_eq (ma_F K N (ma_b v1) (s - 1)) 0 (fun e => ?_) (fun e => ?_) rfl rfl (by omega) (by omega)
    · refine br_f hn (fy_ful (by omega) hF.2.1 h1 (by omega) (fun i hi => (h2 i hi).1) (fun i hi => (h2 i hi).2) (fun ys' => ?_))
      exact br_t (by rw [e]; rfl) ⟨rfl, rl_mk R RY RS⟩
    · refine op_put hF h1 (by omega) h3 hc h4 hfu (by omega) (fun we' => ?_)
      refine br_f hn (fy_ful (by omega) hF.2.1 h1 (by omega) (fun i hi => (h2 i hi).1) (fun i hi => (h2 i hi).2) (fun ys' => ?_))
      exact br_f (nI_ne0 (by omega) (by omega)) ⟨rfl, rl_mk R RY RS⟩
end
section
/-! qualified, minimal, fewest, needed: both sides against one pure loop; g j says whether the j-th set fulfils -/
def st_q (g : Nat → Nat) : Nat → Nat → Int32 → Int32
  | 0, _, v => v
  | d + 1, j, v => st_q g d (j + 1) (if g j = 0 then v else v + 1)
def st_m (x : Int32) (g : Nat → Nat) : Nat → Nat → Int32
  | 0, _ => 1
  | d + 1, j => if ((x >>> (nI j &&& 31)) &&& 1) = 1 then (if g j = 0 then st_m x g d (j + 1) else 0) else st_m x g d (j + 1)
def st_f (g : Nat → Nat) : Nat → Nat → Int32 → Int32
  | 0, _, v => v
  | d + 1, j, v => st_f g d (j + 1) (if g j = 0 then v else if v ≤ sz_p (nI j) 8 0 0 then v else sz_p (nI j) 8 0 0)
def st_n (g : Nat → Nat) : Nat → Nat → Int32 → Int32
  | 0, _, v => sz_p v 8 0 0
  | d + 1, j, v => st_n g d (j + 1) (if g j = 0 then v else v &&& nI j)
def st_g (K N : Nat → Nat) (s : Nat) (x : Int32) : Nat := ma_F K N (ma_b x) (s - 1)
section SX1
variable {m h : Int32} {rnd : Int64} {pa th pr pl st sh de we fu : Nat → Int32} {K N : Nat → Nat} {s : Nat}
theorem sx_q (hF : fm_ok K N s pa th pr pl) (h0 : 0 < s) {post : Int32 → SX → Prop} : ∀ d j v fu1, j + d = 256 → (∀ fu', post (st_q (fun i => st_g K N s (nI i)) d j v) (m, h, nI s, rnd, pa, th, pr, pl, st, sh, de, we, fu')) → wX_qualified_14 post (d + 1) v (nI j) m h (nI s) rnd pa th pr pl st sh de we fu1 := by
  intro d
  induction d with
  | zero =>
    intro j v fu1 hj hp
    exact br_t (nI_le (a := 256) (by omega) (by omega)) (hp fu1)
  | succ d ih =>
    intro j v fu1 hj hp
    have h01 := ma_F01 hF.2.1 (nI j) (i := s - 1) (by omega)
    refine br_f (nI_ge (b := 256) (by omega) (by omega)) (fx_ful hF h0 (fun fu' _ => ?_))
    refine pk_eq (ma_F K N (ma_b (nI j)) (s - 1)) 0 (fun e => ?_) (fun e => ?_) rfl rfl (by omega) (by omega)
    · refine nm_r (nI_1 j) (ih (j + 1) v fu' (by omega) (fun fu2 => ?_))
      have := hp fu2
      rw [st_q, if_pos (show st_g K N s (nI j) = 0 from e)] at this
      exact this
    · refine nm_e (nm_r (nI_1 j) (ih (j + 1) (v + 1) fu' (by omega) (fun fu2 => ?_)))
      have := hp fu2
      rw [st_q, if_neg (show ¬ st_g K N s (nI j) = 0 from e)] at this
      exact this
theorem sx_m (hF : fm_ok K N s pa th pr pl) (h0 : 0 < s) {x : Int32} {post : Int32 → SX → Prop} : ∀ d j fu1, j + d = 8 → (∀ fu', post (st_m x (fun i => st_g K N s (x &&& (((1 : Int32) <<< (nI i &&& 31)) ^^^ (-1)))) d j) (m, h, nI s, rnd, pa, th, pr, pl, st, sh, de, we, fu')) → wX_minimal_19 post x (d + 1) (nI j) m h (nI s) rnd pa th pr pl st sh de we fu1 := by
  intro d
  induction d with
  | zero =>
    intro j fu1 hj hp
    exact br_t (nI_le (a := 8) (by omega) (by omega)) (hp fu1)
  | succ d ih =>
    intro j fu1 hj hp
    have h01 := ma_F01 hF.2.1 (x &&& (((1 : Int32) <<< (nI j &&& 31)) ^^^ (-1))) (i := s - 1) (by omega)
    refine br_f (nI_ge (b := 8) (by omega) (by omega)) (sw_has (fun hb => ?_) (fun hb => ?_))
    · rw [st_m, if_pos hb] at hp
      refine br_f (by decide) (fx_ful hF h0 (fun fu' _ => ?_))
      refine pk_eq (ma_F K N (ma_b (x &&& (((1 : Int32) <<< (nI j &&& 31)) ^^^ (-1)))) (s - 1)) 0 (fun e => ?_) (fun e => ?_) rfl rfl (by omega) (by omega)
      · rw [if_pos (show st_g K N s (x &&& (((1 : Int32) <<< (nI j &&& 31)) ^^^ (-1))) = 0 from e)] at hp
        exact nm_r (nI_1 j) (ih (j + 1) fu' (by omega) hp)
      · rw [if_neg (show ¬ st_g K N s (x &&& (((1 : Int32) <<< (nI j &&& 31)) ^^^ (-1))) = 0 from e)] at hp
        exact hp fu'
    · rw [st_m, if_neg hb] at hp
      exact br_t rfl (nm_r (nI_1 j) (ih (j + 1) fu1 (by omega) hp))
theorem sx_f (hF : fm_ok K N s pa th pr pl) (h0 : 0 < s) {post : Int32 → SX → Prop} : ∀ d j v fu1, j + d = 256 → (∀ fu', post (st_f (fun i => st_g K N s (nI i)) d j v) (m, h, nI s, rnd, pa, th, pr, pl, st, sh, de, we, fu')) → wX_fewest_15 post (d + 1) v (nI j) m h (nI s) rnd pa th pr pl st sh de we fu1 := by
  intro d
  induction d with
  | zero =>
    intro j v fu1 hj hp
    exact br_t (nI_le (a := 256) (by omega) (by omega)) (hp fu1)
  | succ d ih =>
    intro j v fu1 hj hp
    have h01 := ma_F01 hF.2.1 (nI j) (i := s - 1) (by omega)
    rw [st_f] at hp
    refine br_f (nI_ge (b := 256) (by omega) (by omega)) (sw_size ?_)
    refine br_c (fun hle => ?_) (fun hle => ?_)
    · rw [if_pos hle] at hp
      refine nm_r (nI_1 j) (ih (j + 1) v fu1 (by omega) (fun fu2 => ?_))
      have := hp fu2
      by_cases e : st_g K N s (nI j) = 0
      · rw [if_pos e] at this; exact this
      · rw [if_neg e] at this; exact this
    · rw [if_neg hle] at hp
      refine fx_ful hF h0 (fun fu' _ => ?_)
      refine pk_eq (ma_F K N (ma_b (nI j)) (s - 1)) 0 (fun e => ?_) (fun e => ?_) rfl rfl (by omega) (by omega)
      · rw [if_pos (show st_g K N s (nI j) = 0 from e)] at hp
        exact nm_r (nI_1 j) (ih (j + 1) v fu' (by omega) hp)
      · rw [if_neg (show ¬ st_g K N s (nI j) = 0 from e)] at hp
        exact nm_r (nI_1 j) (ih (j + 1) _ fu' (by omega) hp)
theorem sx_n (hF : fm_ok K N s pa th pr pl) (h0 : 0 < s) {post : Int32 → SX → Prop} : ∀ d j v fu1, j + d = 256 → (∀ fu', post (st_n (fun i => st_g K N s (nI i)) d j v) (m, h, nI s, rnd, pa, th, pr, pl, st, sh, de, we, fu')) → wX_needed_16 post (d + 1) v (nI j) m h (nI s) rnd pa th pr pl st sh de we fu1 := by
  intro d
  induction d with
  | zero =>
    intro j v fu1 hj hp
    exact br_t (nI_le (a := 256) (by omega) (by omega)) (sw_size (hp fu1))
  | succ d ih =>
    intro j v fu1 hj hp
    have h01 := ma_F01 hF.2.1 (nI j) (i := s - 1) (by omega)
    rw [st_n] at hp
    refine br_f (nI_ge (b := 256) (by omega) (by omega)) (fx_ful hF h0 (fun fu' _ => ?_))
    refine pk_eq (ma_F K N (ma_b (nI j)) (s - 1)) 0 (fun e => ?_) (fun e => ?_) rfl rfl (by omega) (by omega)
    · rw [if_pos (show st_g K N s (nI j) = 0 from e)] at hp
      exact nm_r (nI_1 j) (ih (j + 1) v fu' (by omega) hp)
    · rw [if_neg (show ¬ st_g K N s (nI j) = 0 from e)] at hp
      exact nm_e (nm_r (nI_1 j) (ih (j + 1) _ fu' (by omega) hp))
end SX1
section SY1
variable {m h c0 : Int32} {ka na sK sN ys : Nat → Int32} {K N : Nat → Nat} {s : Nat}
theorem sv_size4 {S : Int32} {post : Int32 → Prop} {x : Int32} : ∀ d i v, i + d = 8 → post (sz_p x d i v) → wY_size_4 post x m h S c0 ka na sK sN ys (d + 1) v (nI i) := by
  intro d
  induction d with
  | zero =>
    intro i v hi hp
    exact br_t (nI_le (a := 8) (by omega) (by omega)) hp
  | succ d ih =>
    intro i v hi hp
    exact br_f (nI_ge (b := 8) (by omega) (by omega)) (nm_e (nm_r (nI_1 i) (ih (i + 1) _ (by omega) hp)))
theorem sv_size {S : Int32} {post : Int32 → Prop} {x : Int32} (hp : post (sz_p x 8 0 0)) : wpY_size post (m, h, S, c0, ka, na, sK, sN, ys) x := Exists.intro 9 (sv_size4 8 0 0 (by omega) hp)
def sv_ok (K N : Nat → Nat) (s : Nat) (sK sN : Nat → Int32) : Prop := s ≤ 24 ∧ ma_wf K N s ∧ ma_hh K N s = 1 ∧ 0 < s ∧ ∀ i, i < s → sK i = nI (K i) ∧ sN i = nI (N i)
theorem sv_ful {x : Int32} (Y : sv_ok K N s sK sN) {post : Int32 → SY → Prop} (hp : ∀ ys', post (nI (ma_F K N (ma_b x) (s - 1))) (m, h, nI s, c0, ka, na, sK, sN, ys')) : wpY_fulfils post (m, h, nI s, c0, ka, na, sK, sN, ys) x :=
  fy_ful Y.1 Y.2.1 Y.2.2.1 Y.2.2.2.1 (fun i hi => (Y.2.2.2.2 i hi).1) (fun i hi => (Y.2.2.2.2 i hi).2) hp
theorem sv_q (Y : sv_ok K N s sK sN) {post : Int32 → SY → Prop} : ∀ d j v ys1, j + d = 256 → (∀ ys', post (st_q (fun i => st_g K N s (nI i)) d j v) (m, h, nI s, c0, ka, na, sK, sN, ys')) → wY_qualified_14 post (d + 1) v (nI j) m h (nI s) c0 ka na sK sN ys1 := by
  intro d
  induction d with
  | zero =>
    intro j v ys1 hj hp
    exact br_t (nI_le (a := 256) (by omega) (by omega)) (hp ys1)
  | succ d ih =>
    intro j v ys1 hj hp
    have h00 := Y.2.2.2.1
    have h01 := ma_F01 Y.2.1 (nI j) (i := s - 1) (by omega)
    rw [st_q] at hp
    refine br_f (nI_ge (b := 256) (by omega) (by omega)) (sv_ful Y (fun ys' => ?_))
    refine pk_eq (ma_F K N (ma_b (nI j)) (s - 1)) 0 (fun e => ?_) (fun e => ?_) rfl rfl (by omega) (by omega)
    · rw [if_pos (show st_g K N s (nI j) = 0 from e)] at hp
      exact nm_r (nI_1 j) (ih (j + 1) v ys' (by omega) hp)
    · rw [if_neg (show ¬ st_g K N s (nI j) = 0 from e)] at hp
      exact nm_e (nm_r (nI_1 j) (ih (j + 1) (v + 1) ys' (by omega) hp))
theorem sv_m (Y : sv_ok K N s sK sN) {x : Int32} {post : Int32 → SY → Prop} : ∀ d j ys1, j + d = 8 → (∀ ys', post (st_m x (fun i => st_g K N s (x &&& (((1 : Int32) <<< (nI i &&& 31)) ^^^ (-1)))) d j) (m, h, nI s, c0, ka, na, sK, sN, ys')) → wY_minimal_19 post x (d + 1) (nI j) m h (nI s) c0 ka na sK sN ys1 := by
  intro d
  induction d with
  | zero =>
    intro j ys1 hj hp
    exact br_t (nI_le (a := 8) (by omega) (by omega)) (hp ys1)
  | succ d ih =>
    intro j ys1 hj hp
    have h00 := Y.2.2.2.1
    have h01 := ma_F01 Y.2.1 (x &&& (((1 : Int32) <<< (nI j &&& 31)) ^^^ (-1))) (i := s - 1) (by omega)
    refine br_f (nI_ge (b := 8) (by omega) (by omega)) (br_c (fun hb => ?_) (fun hb => ?_))
    · rw [st_m, if_pos hb] at hp
      refine sv_ful Y (fun ys' => ?_)
      refine pk_eq (ma_F K N (ma_b (x &&& (((1 : Int32) <<< (nI j &&& 31)) ^^^ (-1)))) (s - 1)) 0 (fun e => ?_) (fun e => ?_) rfl rfl (by omega) (by omega)
      · rw [if_pos (show st_g K N s (x &&& (((1 : Int32) <<< (nI j &&& 31)) ^^^ (-1))) = 0 from e)] at hp
        exact nm_r (nI_1 j) (ih (j + 1) ys' (by omega) hp)
      · rw [if_neg (show ¬ st_g K N s (x &&& (((1 : Int32) <<< (nI j &&& 31)) ^^^ (-1))) = 0 from e)] at hp
        exact hp ys'
    · rw [st_m, if_neg hb] at hp
      exact nm_r (nI_1 j) (ih (j + 1) ys1 (by omega) hp)
theorem sv_f (Y : sv_ok K N s sK sN) {post : Int32 → SY → Prop} : ∀ d j v ys1, j + d = 256 → (∀ ys', post (st_f (fun i => st_g K N s (nI i)) d j v) (m, h, nI s, c0, ka, na, sK, sN, ys')) → wY_fewest_15 post (d + 1) v (nI j) m h (nI s) c0 ka na sK sN ys1 := by
  intro d
  induction d with
  | zero =>
    intro j v ys1 hj hp
    exact br_t (nI_le (a := 256) (by omega) (by omega)) (hp ys1)
  | succ d ih =>
    intro j v ys1 hj hp
    have h00 := Y.2.2.2.1
    have h01 := ma_F01 Y.2.1 (nI j) (i := s - 1) (by omega)
    rw [st_f] at hp
    refine br_f (nI_ge (b := 256) (by omega) (by omega)) (sv_ful Y (fun ys' => ?_))
    refine pk_eq (ma_F K N (ma_b (nI j)) (s - 1)) 0 (fun e => ?_) (fun e => ?_) rfl rfl (by omega) (by omega)
    · rw [if_pos (show st_g K N s (nI j) = 0 from e)] at hp
      exact nm_r (nI_1 j) (ih (j + 1) v ys' (by omega) hp)
    · rw [if_neg (show ¬ st_g K N s (nI j) = 0 from e)] at hp
      refine sv_size (br_c (fun hle => ?_) (fun hle => ?_))
      · rw [if_pos hle] at hp
        exact nm_r (nI_1 j) (ih (j + 1) v ys' (by omega) hp)
      · rw [if_neg hle] at hp
        exact sv_size (nm_r (nI_1 j) (ih (j + 1) _ ys' (by omega) hp))
theorem sv_n (Y : sv_ok K N s sK sN) {post : Int32 → SY → Prop} : ∀ d j v ys1, j + d = 256 → (∀ ys', post (st_n (fun i => st_g K N s (nI i)) d j v) (m, h, nI s, c0, ka, na, sK, sN, ys')) → wY_needed_16 post (d + 1) v (nI j) m h (nI s) c0 ka na sK sN ys1 := by
  intro d
  induction d with
  | zero =>
    intro j v ys1 hj hp
    exact br_t (nI_le (a := 256) (by omega) (by omega)) (sv_size (hp ys1))
  | succ d ih =>
    intro j v ys1 hj hp
    have h00 := Y.2.2.2.1
    have h01 := ma_F01 Y.2.1 (nI j) (i := s - 1) (by omega)
    rw [st_n] at hp
    refine br_f (nI_ge (b := 256) (by omega) (by omega)) (sv_ful Y (fun ys' => ?_))
    refine pk_eq (ma_F K N (ma_b (nI j)) (s - 1)) 0 (fun e => ?_) (fun e => ?_) rfl rfl (by omega) (by omega)
    · rw [if_pos (show st_g K N s (nI j) = 0 from e)] at hp
      exact nm_r (nI_1 j) (ih (j + 1) v ys' (by omega) hp)
    · rw [if_neg (show ¬ st_g K N s (nI j) = 0 from e)] at hp
      exact nm_e (nm_r (nI_1 j) (ih (j + 1) _ ys' (by omega) hp))
end SY1
end
section
theorem en_ok {K N : Nat → Nat} {M H s c : Nat} {pa th pr pl st sh sK sN : Nat → Int32} (R : rl_Sh K N M H pa th pr pl st) (RS : rl_Sd K N M s c sh sK sN) (h : ¬ s = 0) : sv_ok K N s sK sN := by
  have hF := rl_fm R RS.1
  obtain ⟨h1, h2, _⟩ := RS.2.2 (by omega)
  exact ⟨hF.1, hF.2.1, h1, by omega, h2⟩
theorem i_vc_qualified {k : Nat} {u : SX} {v : SY} (I : i_Rel k u v) (hk : k + 3 ≤ 1537) : wpX_qualified (fun r u' => wpY_qualified (fun r' v' => r' = r ∧ i_Rel (k + 3) u' v') v) u := by
  obtain ⟨M, H, s, c, rnd, pa, th, pr, pl, st, sh, de, we, fu, ka, na, sK, sN, ys, K, N, rfl, rfl, R, RY, RS⟩ := I
  by_cases hs : s = 0
  · have : nI s = 0 := by rw [hs]; rfl
    exact br_t this (br_t this ⟨rfl, rl_mk R RY RS⟩)
  · have Y := en_ok R RS hs
    have hn : ¬ nI s = 0 := nI_ne0 (by omega) (by have := Y.1; omega)
    refine br_f hn (Exists.intro 257 (sx_q (rl_fm R RS.1) (by omega) 256 0 0 fu (by omega) (fun fu' => ?_)))
    exact br_f hn (Exists.intro 257 (sv_q Y 256 0 0 ys (by omega) (fun ys' => ⟨rfl, rl_mk R RY RS⟩)))
theorem i_vc_minimal {k : Nat} {u : SX} {v : SY} (I : i_Rel k u v) (hk : k + 3 ≤ 1537) (v1 : Int32) : wpX_minimal (fun r u' => wpY_minimal (fun r' v' => r' = r ∧ i_Rel (k + 3) u' v') v v1) u v1 := by
  obtain ⟨M, H, s, c, rnd, pa, th, pr, pl, st, sh, de, we, fu, ka, na, sK, sN, ys, K, N, rfl, rfl, R, RY, RS⟩ := I
  by_cases hs : s = 0
  · have : nI s = 0 := by rw [hs]; rfl
    exact br_t this (br_t this ⟨rfl, rl_mk R RY RS⟩)
  · have Y := en_ok R RS hs
    have hn : ¬ nI s = 0 := nI_ne0 (by omega) (by have := Y.1; omega)
    have hF := rl_fm R RS.1
    have h01 := ma_F01 Y.2.1 v1 (i := s - 1) (by omega)
    refine br_f hn (fx_ful hF (by omega) (fun fu' _ => ?_))
    refine pk_eq (ma_F K N (ma_b v1) (s - 1)) 0 (fun e => ?_) (fun e => ?_) rfl rfl (by omega) (by omega)
    · exact br_f hn (sv_ful Y (fun ys' => br_t (by rw [e]; rfl) ⟨rfl, rl_mk R RY RS⟩))
    · refine Exists.intro 9 (sx_m hF (by omega) 8 0 fu' (by omega) (fun fu2 => ?_))
      refine br_f hn (sv_ful Y (fun ys' => br_f (nI_ne0 (by omega) (by omega)) ?_))
      exact Exists.intro 9 (sv_m Y 8 0 ys' (by omega) (fun ys2 => ⟨rfl, rl_mk R RY RS⟩))
theorem i_vc_fewest {k : Nat} {u : SX} {v : SY} (I : i_Rel k u v) (hk : k + 3 ≤ 1537) : wpX_fewest (fun r u' => wpY_fewest (fun r' v' => r' = r ∧ i_Rel (k + 3) u' v') v) u := by
  obtain ⟨M, H, s, c, rnd, pa, th, pr, pl, st, sh, de, we, fu, ka, na, sK, sN, ys, K, N, rfl, rfl, R, RY, RS⟩ := I
  by_cases hs : s = 0
  · have : nI s = 0 := by rw [hs]; rfl
    exact br_t this (br_t this ⟨rfl, rl_mk R RY RS⟩)
  · have Y := en_ok R RS hs
    have hn : ¬ nI s = 0 := nI_ne0 (by omega) (by have := Y.1; omega)
    refine br_f hn (Exists.intro 257 (sx_f (rl_fm R RS.1) (by omega) 256 0 8 fu (by omega) (fun fu' => ?_)))
    exact br_f hn (Exists.intro 257 (sv_f Y 256 0 8 ys (by omega) (fun ys' => ⟨rfl, rl_mk R RY RS⟩)))
theorem i_vc_needed {k : Nat} {u : SX} {v : SY} (I : i_Rel k u v) (hk : k + 3 ≤ 1537) : wpX_needed (fun r u' => wpY_needed (fun r' v' => r' = r ∧ i_Rel (k + 3) u' v') v) u := by
  obtain ⟨M, H, s, c, rnd, pa, th, pr, pl, st, sh, de, we, fu, ka, na, sK, sN, ys, K, N, rfl, rfl, R, RY, RS⟩ := I
  by_cases hs : s = 0
  · have : nI s = 0 := by rw [hs]; rfl
    exact br_t this (br_t this ⟨rfl, rl_mk R RY RS⟩)
  · have Y := en_ok R RS hs
    have hn : ¬ nI s = 0 := nI_ne0 (by omega) (by have := Y.1; omega)
    refine br_f hn (Exists.intro 257 (sx_n (rl_fm R RS.1) (by omega) 256 0 255 fu (by omega) (fun fu' => ?_)))
    exact br_f hn (Exists.intro 257 (sv_n Y 256 0 255 ys (by omega) (fun ys' => ⟨rfl, rl_mk R RY RS⟩)))
end
