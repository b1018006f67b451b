/-! the small methods of X -/
section SM
variable {m h s : Int32} {rnd : Int64} {pa th pr pl st sh de we fu : Nat → Int32}
theorem sw_isSecret {post : Int32 → Prop} {p : Int32} (h0 : p < 0 → post 0) (h1 : ∀ c, c < 251 → p = nI c → post 1) (h2 : (251 : Int32) ≤ p → post 0) : wpX_isSecret post p := by
  refine br_c h0 (fun a => br_c h2 (fun b => ?_))
  obtain ⟨j, hj, rfl⟩ := nI_of a
  refine h1 j ?_ rfl
  rcases Nat.lt_or_ge j 251 with z | z
  · exact z
  · exact absurd (nI_le (a := 251) z hj) b
theorem sw_isLeaf {post : Int32 → Prop} {i : Nat} (hi : i < 24) (h0 : pa i = -1 → post 0) (h1 : ¬ pa i = -1 → post 1) : wpX_isLeaf post (m, h, s, rnd, pa, th, pr, pl, st, sh, de, we, fu) (nI i) := by
  refine And.intro (vp_in_nI hi (by decide)) ?_
  rw [nI_clamp (show i < 2 ^ 31 by omega)]
  exact ⟨h0, h1⟩
theorem sw_has {post : Int32 → Prop} {a b : Int32} (h1 : ((a >>> (b &&& 31)) &&& 1) = 1 → post 1) (h0 : ¬ ((a >>> (b &&& 31)) &&& 1) = 1 → post 0) : wpX_has post a b := ⟨h1, h0⟩
theorem sw_draw {post : Int32 → SX → Prop} (H : ∀ a r, a < 251 → post (nI a) (m, h, s, r, pa, th, pr, pl, st, sh, de, we, fu)) : wpX_drawNumber post (m, h, s, rnd, pa, th, pr, pl, st, sh, de, we, fu) := by
  refine nm_e ?_
  refine nm_e ?_
  refine nm_e ?_
  intro z _
  refine And.intro ba_251L ?_
  obtain ⟨n, hn, rfl⟩ := wb_of z
  have e := wb_shr (k := 1) hn (by decide)
  have e2 : ((lN n).toUInt64 >>> ((1 : Int32).toInt64.toUInt64 &&& Int64.toUInt64 63)).toInt64 = lN (n / 2) := e
  rw [e2]
  have e3 : lN (n / 2) - lN (n / 2) / 251 * 251 = lN (n / 2 % 251) := pk_lRem (b := 251) (by omega) (by decide) (by decide)
  rw [e3, lN_i]
  exact H _ _ (Nat.mod_lt _ (by decide))
theorem sw_power4 {post : Int32 → Prop} {b e : Nat} (hb : b < 251) (he : e < 1000) : ∀ d i v, i + d = e → v < 251 → post (nI (v * b ^ d % 251)) → wX_power_4 post (nI b) (nI e) (d + 1) (nI v) (nI i) := by
  intro d
  induction d with
  | zero =>
    intro i v hi hv hp
    refine br_t (nI_le (by omega) (by omega)) ?_
    rw [Nat.pow_zero, Nat.mul_one, Nat.mod_eq_of_lt hv] at hp
    exact hp
  | succ d ih =>
    intro i v hi hv hp
    have hm : v * b < 251 * 251 := Nat.mul_lt_mul'' hv hb
    refine br_f (nI_ge (by omega) (by omega)) (And.intro ba_251 ?_)
    refine nm_r (ba_rem (v * b) (pk_mul v b) (by omega)) (nm_r (nI_1 i) ?_)
    refine ih (i + 1) (v * b % 251) (by omega) (Nat.mod_lt _ (by decide)) ?_
    have : v * b % 251 * b ^ d % 251 = v * b ^ (d + 1) % 251 := by
      rw [Nat.mul_mod, Nat.mod_mod, ← Nat.mul_mod, Nat.pow_succ]
      congr 1
      rw [Nat.mul_assoc, Nat.mul_comm b]
    rw [this]
    exact hp
theorem sw_power {post : Int32 → Prop} {b e : Nat} (hb : b < 251) (he : e < 1000) (hp : post (nI (b ^ e % 251))) : wpX_power post (nI b) (nI e) := by
  refine Exists.intro (e + 1) ?_
  refine sw_power4 hb he e 0 1 (by omega) (by decide) ?_
  rw [Nat.one_mul]; exact hp
/-- the size of a set: both sides alike -/
def sz_p (x : Int32) : Nat → Nat → Int32 → Int32
  | 0, _, v => v
  | d + 1, i, v => sz_p x d (i + 1) (v + ((x >>> (nI i &&& 31)) &&& 1))
theorem sw_size4 {post : Int32 → Prop} {x : Int32} : ∀ d i v, i + d = 8 → post (sz_p x d i v) → wX_sizeOf_4 post x (d + 1) v (nI i) := by
  intro d
  induction d with
  | zero =>
    intro i v hi hp
    exact br_t (nI_le (a := 8) (by omega) (by omega)) hp
  | succ d ih =>
    intro i v hi hp
    refine br_f (nI_ge (b := 8) (by omega) (by omega)) (sw_has (fun h1 => ?_) (fun h0 => ?_))
    · refine br_f (by decide) (nm_e (nm_r (nI_1 i) (ih (i + 1) _ (by omega) ?_)))
      rw [sz_p, h1] at hp
      exact hp
    · have h2 := (ba_bit01 (x >>> (nI i &&& 31))).resolve_right h0
      refine br_t rfl (nm_r (nI_1 i) (ih (i + 1) _ (by omega) ?_))
      rw [sz_p, h2, Int32.add_zero] at hp
      exact hp
theorem sw_size {post : Int32 → Prop} {x : Int32} (hp : post (sz_p x 8 0 0)) : wpX_sizeOf post x := Exists.intro 9 (sw_size4 8 0 0 (by omega) hp)
/-- pushNode -/
theorem sw_push {post : SX → Prop} {M H : Nat} {p q : Int32} (hM : M < 24) (hH : H < 6) (hp : post (nI (M + 1), nI (H + 1), s, rnd, upd pa M p, upd th M q, upd pr M (-1), upd pl M (-1), upd st H (nI M), sh, de, we, fu)) : wpX_pushNode post (nI M, nI H, s, rnd, pa, th, pr, pl, st, sh, de, we, fu) p q := by
  have i1 : vp_in (nI M) 24 := vp_in_nI hM (by decide)
  have i2 : vp_in (nI H) 6 := vp_in_nI hH (by decide)
  have e1 := nI_clamp (show M < 2 ^ 31 by omega)
  have e2 := nI_clamp (show H < 2 ^ 31 by omega)
  refine And.intro i1 (nm_r (e' := upd pa M p) (by rw [e1]) ?_)
  refine And.intro i1 (nm_r (e' := upd th M q) (by rw [e1]) ?_)
  refine And.intro i1 (nm_r (e' := upd pr M (-1)) (by rw [e1]) ?_)
  refine And.intro i1 (nm_r (e' := upd pl M (-1)) (by rw [e1]) ?_)
  refine And.intro i2 (nm_r (e' := upd st H (nI M)) (by rw [e2]) ?_)
  exact nm_r (nI_1 M) (nm_r (nI_1 H) hp)
/-- forgetShares -/
theorem sw_forget7 {post : SX → Prop} (hp : ∀ sh', (∀ i, i < 24 → sh' i = 0) → post (m, h, s, rnd, pa, th, pr, pl, st, sh', de, we, fu)) : ∀ d i sh1, i + d = 24 → (∀ j, j < i → sh1 j = 0) → wX_forgetShares_7 post m h s rnd (d + 1) (nI i) pa th pr pl st sh1 de we fu := by
  intro d
  induction d with
  | zero =>
    intro i sh1 hi hz
    exact br_t (nI_le (a := 24) (by omega) (by omega)) (hp sh1 (fun j hj => hz j (by omega)))
  | succ d ih =>
    intro i sh1 hi hz
    refine br_f (nI_ge (b := 24) (by omega) (by omega)) (And.intro (vp_in_nI (by omega) (by decide)) ?_)
    refine nm_r (e' := upd sh1 i 0) (by rw [nI_clamp (show i < 2 ^ 31 by omega)]) (nm_r (nI_1 i) ?_)
    refine ih (i + 1) _ (by omega) (fun j hj => ?_)
    by_cases e : j = i
    · rw [e]; exact pk_us
    · rw [pk_un e]; exact hz j (by omega)
theorem sw_forget {post : SX → Prop} (hp : ∀ sh', (∀ i, i < 24 → sh' i = 0) → post (m, h, 0, rnd, pa, th, pr, pl, st, sh', de, we, fu)) : wpX_forgetShares post (m, h, s, rnd, pa, th, pr, pl, st, sh, de, we, fu) :=
  Exists.intro 25 (sw_forget7 hp 24 0 sh (by omega) (fun j hj => absurd hj (Nat.not_lt_zero _)))
/-- takeChildren: sk the stack's content, H the height below the children -/
theorem sw_take12 {post : SX → Prop} {n H M : Nat} {sk : Nat → Nat} (hH : H + n ≤ 6) (hst : ∀ p, p < H + n → st p = nI (sk p) ∧ sk p < 24) (hinj : ∀ p q, p < H + n → q < H + n → sk p = sk q → p = q)
    (hp : ∀ pr' pl', (∀ j, j < n → pr' (sk (H + j)) = nI M ∧ pl' (sk (H + j)) = nI (j + 1)) → (∀ c, (∀ j, j < n → c ≠ sk (H + j)) → pr' c = pr c ∧ pl' c = pl c) → post (nI M, nI H, s, rnd, pa, th, pr', pl', st, sh, de, we, fu)) :
    ∀ d i pr1 pl1, i + d = n → (∀ j, j < i → pr1 (sk (H + j)) = nI M ∧ pl1 (sk (H + j)) = nI (j + 1)) → (∀ c, (∀ j, j < i → c ≠ sk (H + j)) → pr1 c = pr c ∧ pl1 c = pl c) → wX_takeChildren_12 post (nI n) (nI M) (nI H) s rnd (d + 1) (nI i) pa th pr1 pl1 st sh de we fu := by
  intro d
  induction d with
  | zero =>
    intro i pr1 pl1 hi h1 h2
    have : i = n := by omega
    subst this
    exact br_t (nI_le (by omega) (by omega)) (hp pr1 pl1 h1 h2)
  | succ d ih =>
    intro i pr1 pl1 hi h1 h2
    obtain ⟨e1, e2⟩ := hst (H + i) (by omega)
    have ec := nI_clamp (show sk (H + i) < 2 ^ 31 by omega)
    have iv : vp_in (nI (sk (H + i))) 24 := vp_in_nI e2 (by decide)
    refine br_f (nI_ge (by omega) (by omega)) ?_
    rw [nI_add]
    refine And.intro (vp_in_nI (by omega) (by decide)) ?_
    rw [nI_clamp (show H + i < 2 ^ 31 by omega), e1]
    refine nm_e ?_
    refine And.intro iv (nm_r (e' := upd pr1 (sk (H + i)) (nI M)) (by rw [ec]) ?_)
    refine And.intro iv (nm_r (e' := upd pl1 (sk (H + i)) (nI (i + 1))) (by rw [ec, nI_1]) ?_)
    refine nm_r (nI_1 i) ?_
    refine ih (i + 1) _ _ (by omega) (fun j hj => ?_) (fun c hc => ?_)
    · by_cases e : j = i
      · rw [e]; exact ⟨pk_us, pk_us⟩
      · have hne : sk (H + j) ≠ sk (H + i) := fun z => e (by have := hinj _ _ (by omega) (by omega) z; omega)
        rw [pk_un hne, pk_un hne]; exact h1 j (by omega)
    · have hne : c ≠ sk (H + i) := hc i (by omega)
      rw [pk_un hne, pk_un hne]; exact h2 c (fun j hj => hc j (by omega))
theorem sw_take {post : SX → Prop} {n H M : Nat} {sk : Nat → Nat} (hH : H + n ≤ 6) (hst : ∀ p, p < H + n → st p = nI (sk p) ∧ sk p < 24) (hinj : ∀ p q, p < H + n → q < H + n → sk p = sk q → p = q)
    (hp : ∀ pr' pl', (∀ j, j < n → pr' (sk (H + j)) = nI M ∧ pl' (sk (H + j)) = nI (j + 1)) → (∀ c, (∀ j, j < n → c ≠ sk (H + j)) → pr' c = pr c ∧ pl' c = pl c) → post (nI M, nI H, s, rnd, pa, th, pr', pl', st, sh, de, we, fu)) :
    wpX_takeChildren post (nI M, nI (H + n), s, rnd, pa, th, pr, pl, st, sh, de, we, fu) (nI n) := by
  refine nm_r (e' := nI H) (by rw [pk_sub (by omega)]; congr 1; omega) ?_
  exact Exists.intro (n + 1) (sw_take12 hH hst hinj hp n 0 pr pl (by omega) (fun j hj => absurd hj (Nat.not_lt_zero _)) (fun c _ => ⟨rfl, rfl⟩))
end SM
