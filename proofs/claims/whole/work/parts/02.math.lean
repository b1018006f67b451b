/-- the sum of the first n values -/
def ma_sm (f : Nat → Nat) : Nat → Nat
  | 0 => 0
  | n + 1 => ma_sm f n + f n
theorem ma_sm_congr {f g : Nat → Nat} : ∀ {n : Nat}, (∀ i, i < n → f i = g i) → ma_sm f n = ma_sm g n := by
  intro n
  induction n with
  | zero => intro _; rfl
  | succ n ih => intro h; rw [ma_sm, ma_sm, ih (fun i hi => h i (by omega)), h n (by omega)]
theorem ma_sm_add (f g : Nat → Nat) : ∀ n, ma_sm (fun i => f i + g i) n = ma_sm f n + ma_sm g n := by
  intro n
  induction n with
  | zero => rfl
  | succ n ih => rw [ma_sm, ma_sm, ma_sm, ih]; omega
theorem ma_sm_mul (a : Nat) (f : Nat → Nat) : ∀ n, ma_sm (fun i => a * f i) n = a * ma_sm f n := by
  intro n
  induction n with
  | zero => rfl
  | succ n ih => rw [ma_sm, ma_sm, ih, Nat.mul_add]
theorem ma_sm_0 {f : Nat → Nat} : ∀ {n : Nat}, (∀ i, i < n → f i = 0) → ma_sm f n = 0 := by
  intro n
  induction n with
  | zero => intro _; rfl
  | succ n ih => intro h; rw [ma_sm, ih (fun i hi => h i (by omega)), h n (by omega)]
theorem ma_sm_mod {f g : Nat → Nat} : ∀ {n : Nat}, (∀ i, i < n → f i % 251 = g i % 251) → ma_sm f n % 251 = ma_sm g n % 251 := by
  intro n
  induction n with
  | zero => intro _; rfl
  | succ n ih =>
    intro h
    have h1 := ih (fun i hi => h i (by omega))
    have h2 := h n (by omega)
    rw [ma_sm, ma_sm, Nat.add_mod, h1, h2, ← Nat.add_mod]
theorem ma_sm_one (F : Nat → Nat) (x : Nat) : ∀ n, ma_sm (fun c => if c = x then F c else 0) n = if x < n then F x else 0 := by
  intro n
  induction n with
  | zero => rfl
  | succ n ih =>
    rw [ma_sm, ih]
    by_cases h : n = x
    · subst h
      rw [if_neg (by omega), if_pos rfl, if_pos (by omega)]; omega
    · rw [if_neg h]
      by_cases h2 : x < n
      · rw [if_pos h2, if_pos (by omega)]; omega
      · rw [if_neg h2, if_neg (by omega)]
theorem ma_sm_swap (f : Nat → Nat → Nat) (m : Nat) : ∀ n, ma_sm (fun i => ma_sm (fun j => f i j) m) n = ma_sm (fun j => ma_sm (fun i => f i j) n) m := by
  intro n
  induction n with
  | zero => exact (ma_sm_0 (fun i _ => rfl)).symm
  | succ n ih =>
    rw [ma_sm, ih, ← ma_sm_add]
    exact ma_sm_congr (fun i _ => rfl)
theorem ma_sm_rev (f : Nat → Nat) : ∀ n, ma_sm (fun j => f (n - 1 - j)) n = ma_sm f n := by
  have h0 : ∀ n (g : Nat → Nat), ma_sm g (n + 1) = g 0 + ma_sm (fun i => g (i + 1)) n := by
    intro n
    induction n with
    | zero => intro g; show 0 + g 0 = g 0 + 0; omega
    | succ n ih => intro g; rw [ma_sm, ih g, ma_sm]; omega
  intro n
  induction n with
  | zero => rfl
  | succ n ih =>
    rw [h0]
    have : ma_sm (fun i => f (n + 1 - 1 - (i + 1))) n = ma_sm (fun j => f (n - 1 - j)) n := ma_sm_congr (fun i _ => by
      show f _ = f _
      congr 1; omega)
    rw [this, ih, ma_sm]
    show f (n + 1 - 1 - 0) + _ = _
    rw [show n + 1 - 1 - 0 = n by omega]; omega
/-- a sum over marked places is a sum over the children -/
theorem ma_sm_ch {pr : Nat → Int32} {y : Int32} {ch : Nat → Nat} {N t : Nat} (F : Nat → Nat) (hlt : ∀ j, j < N → ch j < t) (hpr : ∀ j, j < N → pr (ch j) = y) (hin : ∀ i j, i < N → j < N → ch i = ch j → i = j) (hco : ∀ c, c < t → pr c = y → ∃ j, j < N ∧ c = ch j) :
    ma_sm (fun c => if pr c = y then F c else 0) t = ma_sm (fun j => F (ch j)) N := by
  have h1 : ma_sm (fun c => if pr c = y then F c else 0) t = ma_sm (fun c => ma_sm (fun j => if c = ch j then F c else 0) N) t := by
    refine ma_sm_congr (fun c hc => ?_)
    show (if pr c = y then F c else 0) = _
    by_cases hp : pr c = y
    · rw [if_pos hp]
      obtain ⟨j0, hj0, e0⟩ := hco c hc hp
      have : ma_sm (fun j => if c = ch j then F c else 0) N = ma_sm (fun j => if j = j0 then F c else 0) N := by
        refine ma_sm_congr (fun j hj => ?_)
        show (if c = ch j then F c else 0) = if j = j0 then F c else 0
        by_cases h : j = j0
        · rw [if_pos h, if_pos (by rw [h]; exact e0)]
        · rw [if_neg h, if_neg (fun h2 => h (hin j j0 hj hj0 (h2.symm.trans e0)))]
      rw [this, ma_sm_one (fun _ => F c) j0 N, if_pos hj0]
    · rw [if_neg hp]
      refine (ma_sm_0 (fun j hj => ?_)).symm
      show (if c = ch j then F c else 0) = 0
      rw [if_neg (fun h => hp (by rw [h]; exact hpr j hj))]
  rw [h1, ma_sm_swap (fun c j => if c = ch j then F c else 0)]
  refine ma_sm_congr (fun j hj => ?_)
  show ma_sm (fun c => if c = ch j then F c else 0) t = _
  rw [ma_sm_one F (ch j) t, if_pos (hlt j hj)]
/-! the stack of a word in postfix order: K the thresholds (0: a leaf), N the parties or numbers of children -/
def ma_ar (K N : Nat → Nat) (i : Nat) : Nat := if K i = 0 then 0 else N i
def ma_hh (K N : Nat → Nat) : Nat → Nat
  | 0 => 0
  | i + 1 => ma_hh K N i - ma_ar K N i + 1
def ma_sk (K N : Nat → Nat) : Nat → Nat → Nat
  | 0 => fun _ => 0
  | i + 1 => fun p => if p = ma_hh K N i - ma_ar K N i then i else ma_sk K N i p
def ma_ch (K N : Nat → Nat) (t j : Nat) : Nat := ma_sk K N t (ma_hh K N t - N t + j)
def ma_wf (K N : Nat → Nat) (m : Nat) : Prop := ∀ i, i < m → (K i = 0 → N i < 8 ∧ ma_hh K N i < 6) ∧ (0 < K i → K i ≤ N i ∧ N i ≤ 5 ∧ N i ≤ ma_hh K N i)
theorem ma_hh_le {K N : Nat → Nat} {m : Nat} (h : ma_wf K N m) : ∀ i, i ≤ m → ma_hh K N i ≤ 6 := by
  intro i
  induction i with
  | zero => intro _; show 0 ≤ 6; omega
  | succ i ih =>
    intro hi
    have h1 := ih (by omega)
    have h2 := h i (by omega)
    rw [ma_hh, ma_ar]
    by_cases hk : K i = 0
    · have := h2.1 hk
      rw [if_pos hk]; omega
    · have := h2.2 (by omega)
      rw [if_neg hk]; omega
theorem ma_ar_le {K N : Nat → Nat} {m : Nat} (h : ma_wf K N m) {i : Nat} (hi : i < m) : ma_ar K N i ≤ ma_hh K N i := by
  rw [ma_ar]
  by_cases hk : K i = 0
  · rw [if_pos hk]; omega
  · rw [if_neg hk]; exact ((h i hi).2 (by omega)).2.2
theorem ma_sk_lt {K N : Nat → Nat} {m : Nat} (h : ma_wf K N m) : ∀ i, i ≤ m → ∀ p, p < ma_hh K N i → ma_sk K N i p < i := by
  intro i
  induction i with
  | zero => intro _ p hp; exact absurd hp (Nat.not_lt_zero _)
  | succ i ih =>
    intro hi p hp
    have ha := ma_ar_le h (i := i) (by omega)
    rw [ma_hh] at hp
    show (if p = ma_hh K N i - ma_ar K N i then i else ma_sk K N i p) < i + 1
    by_cases e : p = ma_hh K N i - ma_ar K N i
    · rw [if_pos e]; omega
    · rw [if_neg e]
      have := ih (by omega) p (by omega)
      omega
theorem ma_sk_mono {K N : Nat → Nat} {m : Nat} (h : ma_wf K N m) : ∀ i, i ≤ m → ∀ p q, p < q → q < ma_hh K N i → ma_sk K N i p < ma_sk K N i q := by
  intro i
  induction i with
  | zero => intro _ p q _ hp; exact absurd hp (Nat.not_lt_zero _)
  | succ i ih =>
    intro hi p q hpq hq
    have ha := ma_ar_le h (i := i) (by omega)
    rw [ma_hh] at hq
    show (if p = ma_hh K N i - ma_ar K N i then i else ma_sk K N i p) < (if q = ma_hh K N i - ma_ar K N i then i else ma_sk K N i q)
    rw [if_neg (by omega)]
    by_cases e : q = ma_hh K N i - ma_ar K N i
    · rw [if_pos e]; exact ma_sk_lt h i (by omega) p (by omega)
    · rw [if_neg e]; exact ih (by omega) p q hpq (by omega)
theorem ma_sk_inj {K N : Nat → Nat} {m : Nat} (h : ma_wf K N m) {i : Nat} (hi : i ≤ m) {p q : Nat} (hp : p < ma_hh K N i) (hq : q < ma_hh K N i) (e : ma_sk K N i p = ma_sk K N i q) : p = q := by
  rcases Nat.lt_trichotomy p q with z | z | z
  · have := ma_sk_mono h i hi p q z hq; omega
  · exact z
  · have := ma_sk_mono h i hi q p z hp; omega
theorem ma_ch_lt {K N : Nat → Nat} {m : Nat} (h : ma_wf K N m) {t : Nat} (ht : t < m) (hk : 0 < K t) {j : Nat} (hj : j < N t) : ma_ch K N t j < t := by
  have := (h t ht).2 hk
  exact ma_sk_lt h t (by omega) _ (by omega)
theorem ma_ch_inj {K N : Nat → Nat} {m : Nat} (h : ma_wf K N m) {t : Nat} (ht : t < m) (hk : 0 < K t) {i j : Nat} (hi : i < N t) (hj : j < N t) (e : ma_ch K N t i = ma_ch K N t j) : i = j := by
  have := (h t ht).2 hk
  have := ma_sk_inj h (i := t) (by omega) (p := ma_hh K N t - N t + i) (q := ma_hh K N t - N t + j) (by omega) (by omega) e
  omega
theorem ma_cover {K N : Nat → Nat} {m : Nat} (h : ma_wf K N m) : ∀ i, i ≤ m → ∀ c, c < i → (∃ p, p < ma_hh K N i ∧ c = ma_sk K N i p) ∨ (∃ t, t < i ∧ 0 < K t ∧ ∃ j, j < N t ∧ c = ma_ch K N t j) := by
  intro i
  induction i with
  | zero => intro _ c hc; exact absurd hc (Nat.not_lt_zero _)
  | succ i ih =>
    intro hi c hc
    have ha := ma_ar_le h (i := i) (by omega)
    by_cases e : c = i
    · refine Or.inl ⟨ma_hh K N i - ma_ar K N i, by rw [ma_hh]; omega, ?_⟩
      show c = if _ then i else _
      rw [if_pos rfl]; exact e
    · rcases ih (by omega) c (by omega) with ⟨p, hp, ep⟩ | ⟨t, ht, hk, j, hj, ej⟩
      · by_cases hp2 : p < ma_hh K N i - ma_ar K N i
        · refine Or.inl ⟨p, by rw [ma_hh]; omega, ?_⟩
          show c = if p = ma_hh K N i - ma_ar K N i then i else _
          rw [if_neg (by omega)]; exact ep
        · by_cases hk : K i = 0
          · have : ma_ar K N i = 0 := by rw [ma_ar, if_pos hk]
            omega
          · have har : ma_ar K N i = N i := by rw [ma_ar, if_neg hk]
            refine Or.inr ⟨i, by omega, by omega, p - (ma_hh K N i - N i), by omega, ?_⟩
            rw [ma_ch, show ma_hh K N i - N i + (p - (ma_hh K N i - N i)) = p by omega]
            exact ep
      · exact Or.inr ⟨t, by omega, hk, j, hj, ej⟩
/-- only the values below count -/
theorem ma_hs_congr {K N K' N' : Nat → Nat} : ∀ i, (∀ c, c < i → K c = K' c ∧ N c = N' c) → ma_hh K N i = ma_hh K' N' i ∧ ma_sk K N i = ma_sk K' N' i := by
  intro i
  induction i with
  | zero => intro _; exact ⟨rfl, rfl⟩
  | succ i ih =>
    intro h
    obtain ⟨h1, h2⟩ := ih (fun c hc => h c (by omega))
    obtain ⟨h3, h4⟩ := h i (by omega)
    have h5 : ma_ar K N i = ma_ar K' N' i := by rw [ma_ar, ma_ar, h3, h4]
    refine ⟨by rw [ma_hh, ma_hh, h1, h5], ?_⟩
    rw [ma_sk, ma_sk, h1, h2, h5]
