/-! the relation -/
def rl_Sh (K N : Nat → Nat) (M H : Nat) (pa th pr pl st : Nat → Int32) : Prop :=
  M ≤ 24 ∧ ma_wf K N M ∧ H = ma_hh K N M ∧ (∀ i, i < M → K i = 0 → pa i = nI (N i)) ∧ (∀ i, i < M → 0 < K i → pa i = -1 ∧ th i = nI (K i)) ∧
  (∀ t, t < M → 0 < K t → ∀ j, j < N t → pr (ma_ch K N t j) = nI t ∧ pl (ma_ch K N t j) = nI (j + 1)) ∧
  (∀ p, p < H → pr (ma_sk K N M p) = -1) ∧ (∀ p, p < H → st p = nI (ma_sk K N M p))
def rl_Sd (K N : Nat → Nat) (M s c : Nat) (sh sK sN : Nat → Int32) : Prop :=
  s ≤ M ∧ c < 251 ∧ (0 < s → ma_hh K N s = 1 ∧ (∀ i, i < s → sK i = nI (K i) ∧ sN i = nI (N i)) ∧ ∃ val, ma_Gd K N s val c ∧ ∀ i, i < s → K i = 0 → sh i = nI (val i % 251))
def rl_Y (K N : Nat → Nat) (M : Nat) (ka na : Nat → Int32) : Prop := ∀ i, i < M → ka i = nI (K i) ∧ na i = nI (N i)
def i_Rel (k : Nat) (u : SX) (v : SY) : Prop := ∃ (M H s c : Nat) (rnd : Int64) (pa th pr pl st sh de we fu ka na sK sN ys : Nat → Int32) (K N : Nat → Nat),
  u = (nI M, nI H, nI s, rnd, pa, th, pr, pl, st, sh, de, we, fu) ∧ v = (nI M, nI H, nI s, nI c, ka, na, sK, sN, ys) ∧ rl_Sh K N M H pa th pr pl st ∧ rl_Y K N M ka na ∧ rl_Sd K N M s c sh sK sN
theorem rl_mk {k M H s c : Nat} {rnd : Int64} {pa th pr pl st sh de we fu ka na sK sN ys : Nat → Int32} {K N : Nat → Nat} (R : rl_Sh K N M H pa th pr pl st) (RY : rl_Y K N M ka na) (RS : rl_Sd K N M s c sh sK sN) :
    i_Rel k (nI M, nI H, nI s, rnd, pa, th, pr, pl, st, sh, de, we, fu) (nI M, nI H, nI s, nI c, ka, na, sK, sN, ys) :=
  ⟨M, H, s, c, rnd, pa, th, pr, pl, st, sh, de, we, fu, ka, na, sK, sN, ys, K, N, rfl, rfl, R, RY, RS⟩
theorem i_up {k : Nat} {u : SX} {v : SY} (h : i_Rel k u v) : i_Rel (k + 3) u v := h
theorem rl_0 (K N : Nat → Nat) (pa th pr pl st : Nat → Int32) : rl_Sh K N 0 0 pa th pr pl st :=
  ⟨by decide, fun i hi => absurd hi (Nat.not_lt_zero _), rfl, fun i hi => absurd hi (Nat.not_lt_zero _), fun i hi => absurd hi (Nat.not_lt_zero _), fun i hi => absurd hi (Nat.not_lt_zero _), fun i hi => absurd hi (Nat.not_lt_zero _), fun i hi => absurd hi (Nat.not_lt_zero _)⟩
theorem i_vc0 (k0 : Int32) : wpX_init (fun u => wpY_init (fun v => i_Rel 1 u v) k0) k0 :=
  rl_mk (k := 1) (M := 0) (H := 0) (s := 0) (c := 0) (rnd := k0.toInt64) (K := fun _ => 0) (N := fun _ => 0) (rl_0 _ _ _ _ _ _ _) (fun i hi => absurd hi (Nat.not_lt_zero _)) ⟨Nat.le_refl _, by decide, fun z => absurd z (Nat.not_lt_zero _)⟩
/-- the part that is shared, or any part -/
theorem rl_fm {K N : Nat → Nat} {M H : Nat} {pa th pr pl st : Nat → Int32} (R : rl_Sh K N M H pa th pr pl st) {s : Nat} (hs : s ≤ M) : fm_ok K N s pa th pr pl := by
  obtain ⟨R1, R2, R3, R4, R5, R6, R7, R8⟩ := R
  refine ⟨by omega, fun i hi => R2 i (by omega), fun i hi => R4 i (by omega), fun i hi => R5 i (by omega), fun t ht => R6 t (by omega), fun t ht hk c hc e => ?_⟩
  rcases ma_cover R2 M (Nat.le_refl _) c (by omega) with ⟨p, hp, ep⟩ | ⟨t', ht', hk', j, hj, ej⟩
  · have := R7 p (by omega)
    rw [← ep, e] at this
    exact absurd this (ba_m1 (by omega))
  · have := (R6 t' ht' hk' j hj).1
    rw [← ej, e] at this
    have e2 : t = t' := (nI_eq (by omega) (by omega)).mp this
    subst e2
    exact ⟨j, hj, ej⟩
def rl_u (f : Nat → Nat) (M k : Nat) : Nat → Nat := fun i => if i = M then k else f i
theorem rl_us {f : Nat → Nat} {M k : Nat} : rl_u f M k M = k := if_pos rfl
theorem rl_un {f : Nat → Nat} {M k i : Nat} (h : i ≠ M) : rl_u f M k i = f i := if_neg h
theorem rl_hs {K N : Nat → Nat} {M k n : Nat} {i : Nat} (hi : i ≤ M) : ma_hh (rl_u K M k) (rl_u N M n) i = ma_hh K N i ∧ ma_sk (rl_u K M k) (rl_u N M n) i = ma_sk K N i :=
  ma_hs_congr i (fun c hc => ⟨rl_un (by omega), rl_un (by omega)⟩)
theorem rl_ch {K N : Nat → Nat} {M k n : Nat} {t : Nat} (ht : t < M) (j : Nat) : ma_ch (rl_u K M k) (rl_u N M n) t j = ma_ch K N t j := by
  obtain ⟨e1, e2⟩ := rl_hs (K := K) (N := N) (k := k) (n := n) (i := t) (by omega : t ≤ M)
  rw [ma_ch, ma_ch, e1, e2, rl_un (by omega)]
theorem rl_push {K N : Nat → Nat} {M H : Nat} {pa th pr pl st : Nat → Int32} (R : rl_Sh K N M H pa th pr pl st) (hM : M < 24) {k n a : Nat} (hk : (k = 0 ∧ n < 8 ∧ H < 6 ∧ a = 0) ∨ (0 < k ∧ k ≤ n ∧ n ≤ 5 ∧ n ≤ H ∧ a = n)) {p q : Int32} (hp0 : k = 0 → p = nI n) (hp1 : 0 < k → p = -1 ∧ q = nI k) {pr1 pl1 : Nat → Int32}
    (g1 : ∀ j, j < a → pr1 (ma_sk K N M (H - a + j)) = nI M ∧ pl1 (ma_sk K N M (H - a + j)) = nI (j + 1)) (g2 : ∀ c, (∀ j, j < a → c ≠ ma_sk K N M (H - a + j)) → pr1 c = pr c ∧ pl1 c = pl c) :
    rl_Sh (rl_u K M k) (rl_u N M n) (M + 1) (H - a + 1) (upd pa M p) (upd th M q) (upd pr1 M (-1)) (upd pl1 M (-1)) (upd st (H - a) (nI M)) := by
  obtain ⟨R1, R2, R3, R4, R5, R6, R7, R8⟩ := R
  have hs := fun (i : Nat) (hi : i ≤ M) => rl_hs (K := K) (N := N) (k := k) (n := n) (i := i) hi
  have har : ma_ar (rl_u K M k) (rl_u N M n) M = a := by
    rw [ma_ar, rl_us, rl_us]
    by_cases e : k = 0
    · rw [if_pos e]; omega
    · rw [if_neg e]; omega
  have hskM : ∀ pp, ma_sk (rl_u K M k) (rl_u N M n) (M + 1) pp = if pp = H - a then M else ma_sk K N M pp := by
    intro pp
    rw [ma_sk, har, (hs M (Nat.le_refl _)).1, (hs M (Nat.le_refl _)).2, ← R3]
  have haH : a ≤ H := by omega
  refine ⟨by omega, fun i hi => ?_, ?_, fun i hi => ?_, fun i hi => ?_, fun t ht hkt j hj => ?_, fun pp hpp => ?_, fun pp hpp => ?_⟩
  · by_cases e : i = M
    · subst e
      rw [rl_us, rl_us, (hs i (Nat.le_refl _)).1, ← R3]
      exact ⟨fun z => by omega, fun z => by omega⟩
    · rw [rl_un e, rl_un e, (hs i (by omega)).1]
      exact R2 i (by omega)
  · rw [ma_hh, har, (hs M (Nat.le_refl _)).1, ← R3]
  · by_cases e : i = M
    · subst e
      rw [rl_us, rl_us]
      exact fun z => by rw [pk_us]; exact hp0 z
    · rw [rl_un e, rl_un e, pk_un e]; exact R4 i (by omega)
  · by_cases e : i = M
    · subst e
      rw [rl_us]
      exact fun z => by rw [pk_us, pk_us]; exact hp1 z
    · rw [rl_un e, pk_un e, pk_un e]; exact R5 i (by omega)
  · by_cases e : t = M
    · subst e
      rw [rl_us] at hkt hj
      have e2 : a = n := by omega
      subst e2
      have e3 : ma_ch (rl_u K t k) (rl_u N t a) t j = ma_sk K N t (H - a + j) := by
        rw [ma_ch, (hs t (Nat.le_refl _)).1, (hs t (Nat.le_refl _)).2, rl_us, ← R3]
      have hlt := ma_sk_lt R2 t (Nat.le_refl _) (H - a + j) (by omega)
      rw [e3, pk_un (by omega), pk_un (by omega)]
      exact g1 j hj
    · rw [rl_un e] at hkt hj
      have hlt := ma_ch_lt R2 (t := t) (by omega) hkt hj
      rw [rl_ch (by omega) j, pk_un (by omega), pk_un (by omega)]
      have h3 := R6 t (by omega) hkt j hj
      have h4 := g2 (ma_ch K N t j) (fun j2 hj2 z => by
        have := R7 (H - a + j2) (by omega)
        rw [← z, h3.1] at this
        exact absurd this (ba_m1 (by omega)))
      rw [h4.1, h4.2]
      exact h3
  · rw [hskM]
    by_cases e : pp = H - a
    · rw [if_pos e]; exact pk_us
    · have hlt := ma_sk_lt R2 M (Nat.le_refl _) pp (by omega)
      rw [if_neg e, pk_un (by omega)]
      rw [(g2 (ma_sk K N M pp) (fun j2 hj2 z => by
        have := ma_sk_inj R2 (Nat.le_refl _) (by omega) (by omega) z
        omega)).1]
      exact R7 pp (by omega)
  · rw [hskM]
    by_cases e : pp = H - a
    · rw [if_pos e, e]; exact pk_us
    · rw [if_neg e, pk_un e]; exact R8 pp (by omega)
theorem rl_pushY {K N : Nat → Nat} {M : Nat} {ka na : Nat → Int32} (R : rl_Y K N M ka na) (k n : Nat) : rl_Y (rl_u K M k) (rl_u N M n) (M + 1) (upd ka M (nI k)) (upd na M (nI n)) := by
  intro i hi
  by_cases e : i = M
  · rw [e, rl_us, rl_us]; exact ⟨pk_us, pk_us⟩
  · rw [rl_un e, rl_un e, pk_un e, pk_un e]; exact R i (by omega)
theorem rl_pushS {K N : Nat → Nat} {M s c : Nat} {sh sK sN : Nat → Int32} (R : rl_Sd K N M s c sh sK sN) (k n : Nat) : rl_Sd (rl_u K M k) (rl_u N M n) (M + 1) s c sh sK sN := by
  obtain ⟨R1, R2, R3⟩ := R
  refine ⟨by omega, R2, fun h0 => ?_⟩
  obtain ⟨h1, h2, val, h3, h4⟩ := R3 h0
  refine ⟨(rl_hs (by omega)).1.trans h1, fun i hi => ?_, val, ⟨h3.1, fun t ht hk => ?_⟩, fun i hi hk => ?_⟩
  · rw [rl_un (by omega), rl_un (by omega)]; exact h2 i hi
  · rw [rl_un (by omega)] at hk
    obtain ⟨a, a0, ha⟩ := h3.2 t ht hk
    refine ⟨a, a0, fun j hj => ?_⟩
    rw [rl_un (by omega)] at hj
    rw [rl_ch (by omega) j, rl_un (by omega)]
    exact ha j hj
  · rw [rl_un (by omega)] at hk
    exact h4 i hi hk
theorem rl_ne {a b : Nat} (h : a ≠ b) (ha : a < 2 ^ 31) (hb : b < 2 ^ 31) : ¬ nI a = nI b := fun e => h ((nI_eq ha hb).mp e)
theorem ry_node {post : Int32 → SY → Prop} {M : Nat} {hh S c : Int32} {ka na sK sN ys : Nat → Int32} {p q : Int32} (hM : M < 24) (hp : post hh (nI (M + 1), hh, S, c, upd ka M p, upd na M q, sK, sN, ys)) : wpY_node post (nI M, hh, S, c, ka, na, sK, sN, ys) p q := by
  have i1 : vp_in (nI M) 24 := vp_in_nI hM (by decide)
  have e1 := nI_clamp (show M < 2 ^ 31 by omega)
  refine And.intro i1 (nm_r (e' := upd ka M p) (by rw [e1]) ?_)
  exact And.intro i1 (nm_r (e' := upd na M q) (by rw [e1]) (nm_r (nI_1 M) hp))
theorem i_vc_leaf {k : Nat} {u : SX} {v : SY} (I : i_Rel k u v) (hk : k + 3 ≤ 1537) (v1 : Int32) : wpX_leaf (fun r u' => wpY_leaf (fun r' v' => r' = r ∧ i_Rel (k + 3) u' v') v v1) u v1 := by
  obtain ⟨M, H, s, c, rnd, pa, th, pr, pl, st, sh, de, we, fu, ka, na, sK, sN, ys, K, N, rfl, rfl, R, RY, RS⟩ := I
  have keep := rl_mk (k := k + 3) (rnd := rnd) (de := de) (we := we) (fu := fu) (ys := ys) R RY RS
  have hM24 := R.1
  have hH6 : H ≤ 6 := by rw [R.2.2.1]; exact ma_hh_le R.2.1 M (Nat.le_refl _)
  by_cases h0 : v1 < 0
  · exact br_t h0 (br_t h0 ⟨rfl, keep⟩)
  · obtain ⟨p, hp, rfl⟩ := nI_of h0
    by_cases h8 : p < 8
    · have y7 : nI p ≤ 7 := nI_le (b := 7) (by omega) (by decide)
      refine br_f h0 (br_t (nI_lt (b := 8) h8 (by decide)) ?_)
      by_cases hM : M < 24
      · refine br_t (nI_lt (b := 24) hM (by decide)) ?_
        have yM : ¬ nI M = 24 := rl_ne (b := 24) (by omega) (by omega) (by decide)
        by_cases hH : H < 6
        · refine br_t (nI_lt (b := 6) hH (by decide)) ?_
          have yH : ¬ nI H = 6 := rl_ne (b := 6) (by omega) (by omega) (by decide)
          refine sw_push hM hH ?_
          refine br_f h0 (br_t y7 (br_f yM (br_f yH (nm_r (nI_1 H) ?_))))
          refine ry_node hM ⟨rfl, ?_⟩
          have P := rl_push (k := 0) (n := p) (a := 0) (p := nI p) (q := -1) (pr1 := pr) (pl1 := pl) R hM (Or.inl ⟨rfl, h8, hH, rfl⟩) (fun _ => rfl) (fun z => absurd z (by omega)) (fun j hj => absurd hj (Nat.not_lt_zero _)) (fun _ _ => ⟨rfl, rfl⟩)
          exact rl_mk P (rl_pushY RY 0 p) (rl_pushS RS 0 p)
        · have e6 : H = 6 := by omega
          refine br_f (nI_nlt (b := 6) (by omega) (by omega)) ?_
          exact br_f h0 (br_t y7 (br_f yM (br_t (by rw [e6]; rfl) ⟨rfl, keep⟩)))
      · have e24 : M = 24 := by omega
        refine br_f (nI_nlt (b := 24) (by omega) (by omega)) ?_
        exact br_f h0 (br_t y7 (br_t (by rw [e24]; rfl) ⟨rfl, keep⟩))
    · have n8 : ¬ nI p < 8 := nI_nlt (b := 8) (by omega) (by omega)
      have n7 : ¬ nI p ≤ 7 := nI_ge (a := 7) (by omega) (by omega)
      exact br_f h0 (br_f n8 (br_f h0 (br_f n7 ⟨rfl, keep⟩)))
theorem i_vc_gate {k : Nat} {u : SX} {v : SY} (I : i_Rel k u v) (hk : k + 3 ≤ 1537) (v1 : Int32) (v2 : Int32) : wpX_gate (fun r u' => wpY_gate (fun r' v' => r' = r ∧ i_Rel (k + 3) u' v') v v1 v2) u v1 v2 := by
  obtain ⟨M, H, s, c, rnd, pa, th, pr, pl, st, sh, de, we, fu, ka, na, sK, sN, ys, K, N, rfl, rfl, R, RY, RS⟩ := I
  have keep := rl_mk (k := k + 3) (rnd := rnd) (de := de) (we := we) (fu := fu) (ys := ys) R RY RS
  have hM24 := R.1
  have hH6 : H ≤ 6 := by rw [R.2.2.1]; exact ma_hh_le R.2.1 M (Nat.le_refl _)
  by_cases a1 : v2 < 1
  · exact br_t a1 (br_t a1 ⟨rfl, keep⟩)
  by_cases a2 : 5 < v2
  · exact br_f a1 (br_t a2 (br_f a1 (br_t a2 ⟨rfl, keep⟩)))
  by_cases a3 : v1 < 1
  · exact br_f a1 (br_f a2 (br_t a3 (br_f a1 (br_f a2 (br_t a3 ⟨rfl, keep⟩)))))
  by_cases a4 : v1 ≤ v2
  · obtain ⟨n, hn, rfl⟩ := nI_of (x := v2) (fun z => a1 (Int32.lt_trans z (by decide)))
    obtain ⟨q, hq, rfl⟩ := nI_of (x := v1) (fun z => a3 (Int32.lt_trans z (by decide)))
    have b1 : 1 ≤ n := by
      rcases Nat.eq_zero_or_pos n with z | z
      · rw [z] at a1; exact absurd (by decide) a1
      · exact z
    have b2 : n ≤ 5 := by
      rcases Nat.lt_or_ge 5 n with z | z
      · exact absurd (nI_lt (a := 5) z hn) a2
      · exact z
    have b3 : 1 ≤ q := by
      rcases Nat.eq_zero_or_pos q with z | z
      · rw [z] at a3; exact absurd (by decide) a3
      · exact z
    have b4 : q ≤ n := (nI_leI hq hn).mp a4
    refine br_f a1 (br_f a2 (br_f a3 (br_t a4 ?_)))
    by_cases hM : M < 24
    · refine br_t (nI_lt (b := 24) hM (by decide)) ?_
      have yM : ¬ nI M = 24 := rl_ne (b := 24) (by omega) (by omega) (by decide)
      by_cases hH : n ≤ H
      · have xH : nI n ≤ nI H := nI_le hH (by omega)
        refine br_t xH ?_
        have hsp : ∀ p, p < H - n + n → st p = nI (ma_sk K N M p) ∧ ma_sk K N M p < 24 := by
          intro p hp
          have h1 := ma_sk_lt R.2.1 M (Nat.le_refl _) p (by have := R.2.2.1; omega)
          exact ⟨R.2.2.2.2.2.2.2 p (by omega), by omega⟩
        have hT := fun (post : SX → Prop) => sw_take (post := post) (s := nI s) (rnd := rnd) (pa := pa) (th := th) (pr := pr) (pl := pl) (st := st) (sh := sh) (de := de) (we := we) (fu := fu) (n := n) (H := H - n) (M := M) (sk := ma_sk K N M) (by omega) hsp (fun p p2 h1 h2 e => ma_sk_inj R.2.1 (Nat.le_refl _) (by have := R.2.2.1; omega) (by have := R.2.2.1; omega) e)
        rw [show H - n + n = H by omega] at hT
        refine hT _ (fun pr1 pl1 g1 g2 => ?_)
        refine sw_push hM (by omega) ?_
        have yH : nI H - nI n + 1 = nI (H - n + 1) := by rw [pk_sub hH, nI_1]
        refine br_f a1 (br_f a2 (br_f a3 (br_t a4 (br_f yM (br_t xH (nm_r yH ?_))))))
        refine ry_node hM ⟨rfl, ?_⟩
        have P := rl_push (k := q) (n := n) (a := n) (p := -1) (q := nI q) (pr1 := pr1) (pl1 := pl1) R hM (Or.inr ⟨b3, b4, b2, hH, rfl⟩) (fun z => absurd z (by omega)) (fun _ => ⟨rfl, rfl⟩) g1 g2
        exact rl_mk P (rl_pushY RY q n) (rl_pushS RS q n)
      · have xH : ¬ nI n ≤ nI H := nI_ge (by omega) hn
        exact br_f xH (br_f a1 (br_f a2 (br_f a3 (br_t a4 (br_f yM (br_f xH ⟨rfl, keep⟩))))))
    · have e24 : M = 24 := by omega
      refine br_f (nI_nlt (b := 24) (by omega) (by omega)) ?_
      exact br_f a1 (br_f a2 (br_f a3 (br_t a4 (br_t (by rw [e24]; rfl) ⟨rfl, keep⟩))))
  · exact br_f a1 (br_f a2 (br_f a3 (br_f a4 (br_f a1 (br_f a2 (br_f a3 (br_f a4 ⟨rfl, keep⟩)))))))
theorem i_vc_clear {k : Nat} {u : SX} {v : SY} (I : i_Rel k u v) (hk : k + 3 ≤ 1537) : wpX_clear (fun u' => wpY_clear (fun v' => i_Rel (k + 3) u' v') v) u := by
  obtain ⟨M, H, s, c, rnd, pa, th, pr, pl, st, sh, de, we, fu, ka, na, sK, sN, ys, K, N, rfl, rfl, R, RY, RS⟩ := I
  unfold wpX_clear
  dsimp only
  refine sw_forget (fun sh' _ => ?_)
  exact rl_mk (k := k + 3) (M := 0) (H := 0) (s := 0) (c := c) (K := K) (N := N) (rl_0 _ _ _ _ _ _ _) (fun i hi => absurd hi (Nat.not_lt_zero _)) ⟨Nat.le_refl _, RS.2.1, fun z => absurd z (Nat.not_lt_zero _)⟩
