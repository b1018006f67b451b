/-! dealing: addTerm, split, dealOntoShares -/
section DL
variable {m h S : Int32} {rnd : Int64} {pa th pr pl st sh de we fu : Nat → Int32} {K N : Nat → Nat} {s : Nat}
theorem dl_term8 {post : SX → Prop} {t dg a : Nat} {x v : Nat → Nat} (ht : t < 24) (hdg : dg < 10) (ha : a < 251) (hx : ∀ c, c < t → pr c = nI t → pl c = nI (x c) ∧ x c ≤ 5) (hv : ∀ c, c < t → pr c = nI t → de c = nI (v c) ∧ v c < 251)
    (hp : ∀ de', (∀ c, c < t → pr c = nI t → de' c = nI ((v c + a * x c ^ dg) % 251)) → (∀ c, ¬ (c < t ∧ pr c = nI t) → de' c = de c) → post (m, h, S, rnd, pa, th, pr, pl, st, sh, de', we, fu)) :
    ∀ d i de1, i + d = t → (∀ c, c < i → pr c = nI t → de1 c = nI ((v c + a * x c ^ dg) % 251)) → (∀ c, ¬ (c < i ∧ pr c = nI t) → de1 c = de c) → wX_addTerm_8 post (nI t) (nI dg) (nI a) m h S rnd (d + 1) (nI i) pa th pr pl st sh de1 we fu := by
  intro d
  induction d with
  | zero =>
    intro i de1 hi h1 h2
    have : i = t := by omega
    subst this
    exact br_t (nI_le (by omega) (by omega)) (hp de1 h1 h2)
  | succ d ih =>
    intro i de1 hi h1 h2
    have iv : vp_in (nI i) 24 := vp_in_nI (by omega) (by decide)
    have ec := nI_clamp (show i < 2 ^ 31 by omega)
    refine br_f (nI_ge (by omega) (by omega)) (And.intro iv ?_)
    rw [ec]
    refine br_c (fun hc => And.intro iv ?_) (fun hc => ?_)
    · obtain ⟨e1, e2⟩ := hx i (by omega) hc
      obtain ⟨e3, e4⟩ := hv i (by omega) hc
      have e5 : de1 i = nI (v i) := (h2 i (fun z => absurd z.1 (by omega))).trans e3
      rw [e1]
      refine sw_power (by omega) (by omega) ?_
      have hpw : x i ^ dg % 251 < 251 := Nat.mod_lt _ (by decide)
      have hm : a * (x i ^ dg % 251) < 251 * 251 := Nat.mul_lt_mul'' ha hpw
      have hq : a * (x i ^ dg % 251) % 251 < 251 := Nat.mod_lt _ (by decide)
      refine And.intro ba_251 (nm_r (ba_rem _ (pk_mul a (x i ^ dg % 251)) (by omega)) ?_)
      refine And.intro iv (And.intro ba_251 (And.intro iv ?_))
      refine nm_r (e' := upd de1 i (nI ((v i + a * x i ^ dg) % 251))) ?_ (nm_r (nI_1 i) ?_)
      · rw [e5, ba_rem _ (nI_add _ _) (by omega)]
        congr 2
        exact ma_am rfl (by rw [Nat.mod_mod]; exact ma_mm rfl (Nat.mod_mod _ _))
      · refine ih (i + 1) _ (by omega) (fun c hc1 hc2 => ?_) (fun c hc1 => ?_)
        · by_cases e : c = i
          · rw [e]; exact pk_us
          · rw [pk_un e]; exact h1 c (by omega) hc2
        · have e : c ≠ i := fun z => hc1 ⟨by omega, by rw [z]; exact hc⟩
          rw [pk_un e]
          exact h2 c (fun z => hc1 ⟨by omega, z.2⟩)
    · refine nm_r (nI_1 i) (ih (i + 1) _ (by omega) (fun c hc1 hc2 => ?_) (fun c hc1 => ?_))
      · by_cases e : c = i
        · rw [e] at hc2; exact absurd hc2 hc
        · exact h1 c (by omega) hc2
      · exact h2 c (fun z => hc1 ⟨by omega, z.2⟩)
theorem dl_term {post : SX → Prop} {t dg : Nat} {x v : Nat → Nat} (ht : t < 24) (hdg : dg < 10) (hx : ∀ c, c < t → pr c = nI t → pl c = nI (x c) ∧ x c ≤ 5) (hv : ∀ c, c < t → pr c = nI t → de c = nI (v c) ∧ v c < 251)
    (hp : ∀ a r de', (∀ c, c < t → pr c = nI t → de' c = nI ((v c + a * x c ^ dg) % 251)) → (∀ c, ¬ (c < t ∧ pr c = nI t) → de' c = de c) → post (m, h, S, r, pa, th, pr, pl, st, sh, de', we, fu)) :
    wpX_addTerm post (m, h, S, rnd, pa, th, pr, pl, st, sh, de, we, fu) (nI t) (nI dg) := by
  unfold wpX_addTerm
  dsimp only
  refine sw_draw (fun a r ha => ?_)
  exact Exists.intro (t + 1) (dl_term8 ht hdg ha hx hv (hp a r) t 0 de (by omega) (fun c hc => absurd hc (Nat.not_lt_zero _)) (fun c _ => rfl))
theorem dl_split37 {post : SX → Prop} {t k v0 : Nat} {x : Nat → Nat} (ht : t < 24) (hk : k ≤ 5) (hth : th t = nI k) (hx : ∀ c, c < t → pr c = nI t → pl c = nI (x c) ∧ x c ≤ 5)
    (hp : ∀ (a : Nat → Nat) r de', a 0 = v0 → (∀ c, c < t → pr c = nI t → de' c = nI (ma_po a k (x c) % 251)) → (∀ c, ¬ (c < t ∧ pr c = nI t) → de' c = de c) → post (m, h, S, r, pa, th, pr, pl, st, sh, de', we, fu)) :
    ∀ d dg (a : Nat → Nat) r de1, dg + d = k → 0 < dg → a 0 = v0 → (∀ c, c < t → pr c = nI t → de1 c = nI (ma_po a dg (x c) % 251)) → (∀ c, ¬ (c < t ∧ pr c = nI t) → de1 c = de c) → wX_split_37 post (nI t) (d + 1) (nI dg) m h S r pa th pr pl st sh de1 we fu := by
  have iv : vp_in (nI t) 24 := vp_in_nI (by omega) (by decide)
  have ec := nI_clamp (show t < 2 ^ 31 by omega)
  intro d
  induction d with
  | zero =>
    intro dg a r de1 hi h0 ha h1 h2
    have : dg = k := by omega
    subst this
    refine And.intro iv ?_
    rw [ec, hth]
    exact br_t (nI_le (by omega) (by omega)) (hp a r de1 ha h1 h2)
  | succ d ih =>
    intro dg a r de1 hi h0 ha h1 h2
    refine And.intro iv ?_
    rw [ec, hth]
    refine br_f (nI_ge (by omega) (by omega)) ?_
    refine dl_term (x := x) (v := fun c => ma_po a dg (x c) % 251) ht (by omega) hx (fun c hc1 hc2 => ⟨h1 c hc1 hc2, Nat.mod_lt _ (by decide)⟩) (fun b r2 de2 g1 g2 => ?_)
    refine nm_r (nI_1 dg) (ih (dg + 1) (fun i => if i = dg then b else a i) r2 de2 (by omega) (by omega) ?_ (fun c hc1 hc2 => ?_) (fun c hc => (g2 c hc).trans (h2 c hc)))
    · show (if 0 = dg then b else a 0) = v0
      rw [if_neg (by omega)]; exact ha
    · rw [g1 c hc1 hc2]
      congr 1
      have e : ma_po (fun i => if i = dg then b else a i) (dg + 1) (x c) = ma_po a dg (x c) + b * x c ^ dg := by
        rw [ma_po, ma_sm, if_pos rfl, ma_po]
        congr 1
        refine ma_sm_congr (fun i hi2 => ?_)
        show (if i = dg then b else a i) * _ = _
        rw [if_neg (by omega)]
      rw [e]
      exact ma_am (Nat.mod_mod _ _) rfl
theorem dl_split {post : SX → Prop} {t k v0 : Nat} {x : Nat → Nat} (ht : t < 24) (hk : k ≤ 5) (hk0 : 0 < k) (hth : th t = nI k) (hv : de t = nI v0) (hv0 : v0 < 251) (hx : ∀ c, c < t → pr c = nI t → pl c = nI (x c) ∧ x c ≤ 5)
    (hp : ∀ (a : Nat → Nat) r de', a 0 = v0 → (∀ c, c < t → pr c = nI t → de' c = nI (ma_po a k (x c) % 251)) → (∀ c, ¬ (c < t ∧ pr c = nI t) → de' c = de c) → post (m, h, S, r, pa, th, pr, pl, st, sh, de', we, fu)) :
    wpX_split post (m, h, S, rnd, pa, th, pr, pl, st, sh, de, we, fu) (nI t) := by
  have it : vp_in (nI t) 24 := vp_in_nI (by omega) (by decide)
  have et := nI_clamp (show t < 2 ^ 31 by omega)
  have key : ∀ d i de1, i + d = t → (∀ c, c < i → pr c = nI t → de1 c = nI v0) → (∀ c, ¬ (c < i ∧ pr c = nI t) → de1 c = de c) → wX_split_2 post (nI t) m h S rnd (d + 1) (nI i) pa th pr pl st sh de1 we fu := by
    intro d
    induction d with
    | zero =>
      intro i de1 hi h1 h2
      have : i = t := by omega
      subst this
      refine br_t (nI_le (by omega) (by omega)) (Exists.intro (k - 1 + 1) ?_)
      refine dl_split37 (de := de) (v0 := v0) (x := x) ht hk hth hx hp (k - 1) 1 (fun _ => v0) rnd de1 (by omega) (by omega) rfl (fun c hc1 hc2 => ?_) h2
      rw [h1 c hc1 hc2]
      congr 1
      show v0 = (0 + v0 * x c ^ 0) % 251
      rw [Nat.pow_zero, Nat.mul_one, Nat.zero_add, Nat.mod_eq_of_lt hv0]
    | succ d ih =>
      intro i de1 hi h1 h2
      have iv : vp_in (nI i) 24 := vp_in_nI (by omega) (by decide)
      have ec := nI_clamp (show i < 2 ^ 31 by omega)
      refine br_f (nI_ge (by omega) (by omega)) (And.intro iv ?_)
      rw [ec]
      refine br_c (fun hc => And.intro it (And.intro iv ?_)) (fun hc => ?_)
      · have e5 : de1 t = nI v0 := (h2 t (fun z => absurd z.1 (by omega))).trans hv
        refine nm_r (e' := upd de1 i (nI v0)) (by rw [et, e5]) (nm_r (nI_1 i) ?_)
        refine ih (i + 1) _ (by omega) (fun c hc1 hc2 => ?_) (fun c hc1 => ?_)
        · by_cases e : c = i
          · rw [e]; exact pk_us
          · rw [pk_un e]; exact h1 c (by omega) hc2
        · have e : c ≠ i := fun z => hc1 ⟨by omega, by rw [z]; exact hc⟩
          rw [pk_un e]
          exact h2 c (fun z => hc1 ⟨by omega, z.2⟩)
      · refine nm_r (nI_1 i) (ih (i + 1) _ (by omega) (fun c hc1 hc2 => ?_) (fun c hc1 => ?_))
        · by_cases e : c = i
          · rw [e] at hc2; exact absurd hc2 hc
          · exact h1 c (by omega) hc2
        · exact h2 c (fun z => hc1 ⟨by omega, z.2⟩)
  exact Exists.intro (t + 1) (key t 0 de (by omega) (fun c hc => absurd hc (Nat.not_lt_zero _)) (fun c _ => rfl))
/-- what stands when the nodes from i on are dealt: f the numbers dealt -/
def dl_Inv (K N : Nat → Nat) (s : Nat) (pr sh : Nat → Int32) (sg : Nat → Nat) (num i : Nat) (f : Nat → Nat) (sh1 de1 : Nat → Int32) : Prop :=
  f (s - 1) = num ∧ (∀ t, i ≤ t → t < s → 0 < K t → ∃ a : Nat → Nat, a 0 = f t ∧ ∀ j, j < N t → f (ma_ch K N t j) = ma_po a (K t) (j + 1) % 251) ∧
  (∀ c, c < s → K c = 0 → (i ≤ c → sh1 c = nI ((sg c + f c) % 251)) ∧ (c < i → sh1 c = sh c)) ∧
  (∀ c, c < i → (c = s - 1 ∨ ∃ t, i ≤ t ∧ t < s ∧ 0 < K t ∧ pr c = nI t) → de1 c = nI (f c) ∧ f c < 251)
theorem dl_19 (hF : fm_ok K N s pa th pr pl) (h1 : ma_hh K N s = 1) {sg : Nat → Nat} (hsg : ∀ c, c < s → K c = 0 → sh c = nI (sg c) ∧ sg c < 251) {num : Nat} {post : SX → Prop}
    (hp : ∀ r sh' de' f, ma_Gd K N s f num → (∀ c, c < s → K c = 0 → sh' c = nI ((sg c + f c) % 251)) → post (m, h, S, r, pa, th, pr, pl, st, sh', de', we, fu)) :
    ∀ i f r sh1 de1, i ≤ s → dl_Inv K N s pr sh sg num i f sh1 de1 → wX_dealOntoShares_19 post (i + 1) (nI i + (-1)) m h S r pa th pr pl st sh1 de1 we fu := by
  have hs24 := hF.1
  intro i
  induction i with
  | zero =>
    intro f r sh1 de1 _ I
    refine br_t (by decide) (hp r sh1 de1 f ⟨by rw [I.1], fun t ht hk => ?_⟩ (fun c hc hk => (I.2.2.1 c hc hk).1 (Nat.zero_le _)))
    obtain ⟨a, a0, ha⟩ := I.2.1 t (Nat.zero_le _) ht hk
    exact ⟨a, by rw [a0], fun j hj => by rw [ha j hj, Nat.mod_mod]⟩
  | succ i ih =>
    intro f r sh1 de1 hi I
    obtain ⟨I1, I2, I3, I4⟩ := I
    rw [pk_m1]
    have iv : vp_in (nI i) 24 := vp_in_nI (by omega) (by decide)
    have ec := nI_clamp (show i < 2 ^ 31 by omega)
    obtain ⟨ed, fd⟩ := I4 i (by omega) (by
      rcases fm_par hF h1 (c := i) (by omega) with e | ⟨t, g1, g2, g3, j, g4, g5, g6, g7⟩
      · exact Or.inl e
      · exact Or.inr ⟨t, by omega, g2, g3, g6⟩)
    refine br_f (nI_pos (by omega)) ?_
    by_cases hk : K i = 0
    · have hpa := hF.2.2.1 i (by omega) hk
      have hN := ((hF.2.1 i (by omega)).1 hk).1
      refine sw_isLeaf (by omega) (fun z => absurd (hpa.symm.trans z) (ba_m1 (by omega))) (fun _ => ?_)
      obtain ⟨es, hs⟩ := hsg i (by omega) hk
      have es1 : sh1 i = nI (sg i) := ((I3 i (by omega) hk).2 (by omega)).trans es
      refine br_f (by decide) (And.intro iv (And.intro iv (And.intro ba_251 (And.intro iv ?_))))
      refine nm_r (e' := upd sh1 i (nI ((sg i + f i) % 251))) ?_ (And.intro iv (nm_r (e' := upd de1 i 0) (by rw [ec]) (nm_e ?_)))
      · rw [ec, es1, ed, ba_rem _ (nI_add _ _) (by omega)]
      · refine ih f r _ _ (by omega) ⟨I1, fun t g1 g2 g3 => ?_, fun c g1 g2 => ⟨fun g3 => ?_, fun g3 => ?_⟩, fun c g1 g2 => ?_⟩
        · have : t ≠ i := fun z => by rw [z] at g3; omega
          exact I2 t (by omega) g2 g3
        · by_cases e : c = i
          · rw [e]; exact pk_us
          · rw [pk_un e]; exact (I3 c g1 g2).1 (by omega)
        · rw [pk_un (by omega)]; exact (I3 c g1 g2).2 (by omega)
        · rw [pk_un (by omega)]
          refine I4 c (by omega) ?_
          rcases g2 with e | ⟨t, g3, g4, g5, g6⟩
          · exact Or.inl e
          · have : t ≠ i := fun z => by rw [z] at g5; omega
            exact Or.inr ⟨t, by omega, g4, g5, g6⟩
    · obtain ⟨hpa, hth⟩ := hF.2.2.2.1 i (by omega) (by omega)
      have hw := (hF.2.1 i (by omega)).2 (by omega)
      refine sw_isLeaf (by omega) (fun _ => ?_) (fun z => absurd hpa z)
      refine br_t rfl ?_
      refine dl_split (k := K i) (v0 := f i) (x := fun c => (pl c).toNatClampNeg) (by omega) (by omega) (by omega) hth ed fd (fun c g1 g2 => ?_) (fun a r2 de2 a0 g1 g2 => ?_)
      · obtain ⟨j, hj, e⟩ := hF.2.2.2.2.2 i (by omega) (by omega) c g1 g2
        have := (hF.2.2.2.2.1 i (by omega) (by omega) j hj).2
        rw [← e] at this
        show pl c = nI (pl c).toNatClampNeg ∧ (pl c).toNatClampNeg ≤ 5
        rw [this, nI_clamp (show j + 1 < 2 ^ 31 by omega)]
        exact ⟨rfl, by omega⟩
      · refine And.intro iv (nm_r (e' := upd de2 i 0) (by rw [ec]) (nm_e ?_))
        refine ih (fun c => if c < i ∧ pr c = nI i then ma_po a (K i) (pl c).toNatClampNeg % 251 else f c) r2 _ _ (by omega) ⟨?_, fun t q1 q2 q3 => ?_, fun c q1 q2 => ⟨fun q3 => ?_, fun q3 => ?_⟩, fun c q1 q2 => ?_⟩
        · show (if s - 1 < i ∧ _ then _ else f (s - 1)) = num
          rw [if_neg (fun z => absurd z.1 (by omega))]; exact I1
        · by_cases e : t = i
          · subst e
            refine ⟨a, ?_, fun j hj => ?_⟩
            · show a 0 = if t < t ∧ _ then _ else f t
              rw [if_neg (fun z => absurd z.1 (by omega))]; exact a0
            · obtain ⟨w1, w2⟩ := hF.2.2.2.2.1 t q2 q3 j hj
              have w3 := ma_ch_lt hF.2.1 q2 q3 hj
              show (if ma_ch K N t j < t ∧ pr (ma_ch K N t j) = nI t then _ else _) = _
              rw [if_pos ⟨w3, w1⟩, w2, nI_clamp (show j + 1 < 2 ^ 31 by have := (hF.2.1 t q2).2 q3; omega)]
          · obtain ⟨b, b0, hb⟩ := I2 t (by omega) q2 q3
            refine ⟨b, ?_, fun j hj => ?_⟩
            · show b 0 = if t < i ∧ _ then _ else f t
              rw [if_neg (fun z => absurd z.1 (by omega))]; exact b0
            · obtain ⟨w1, w2⟩ := hF.2.2.2.2.1 t q2 q3 j hj
              show (if ma_ch K N t j < i ∧ pr (ma_ch K N t j) = nI i then _ else _) = _
              rw [if_neg (fun z => e ((nI_eq (by omega) (by omega)).mp (w1.symm.trans z.2))), hb j hj]
        · have e : c ≠ i := fun z => by rw [z] at q2; omega
          show sh1 c = nI ((sg c + if c < i ∧ _ then _ else f c) % 251)
          rw [if_neg (fun z => absurd z.1 (by omega))]; exact (I3 c q1 q2).1 (by omega)
        · exact (I3 c q1 q2).2 (by omega)
        · rw [pk_un (by omega)]
          show de2 c = nI (if c < i ∧ pr c = nI i then _ else f c) ∧ (if c < i ∧ pr c = nI i then _ else f c) < 251
          by_cases e : pr c = nI i
          · rw [if_pos ⟨q1, e⟩]
            exact ⟨g1 c q1 e, Nat.mod_lt _ (by decide)⟩
          · rw [if_neg (fun z => e z.2), g2 c (fun z => e z.2)]
            refine I4 c (by omega) ?_
            rcases q2 with w | ⟨t, g3, g4, g5, g6⟩
            · exact Or.inl w
            · have : t ≠ i := fun z => e (by rw [← z]; exact g6)
              exact Or.inr ⟨t, by omega, g4, g5, g6⟩
theorem dl_deal (hF : fm_ok K N s pa th pr pl) (h1 : ma_hh K N s = 1) (h0 : 0 < s) {sg : Nat → Nat} (hsg : ∀ c, c < s → K c = 0 → sh c = nI (sg c) ∧ sg c < 251) {num : Nat} (hn : num < 251) {post : SX → Prop}
    (hp : ∀ r sh' de' f, ma_Gd K N s f num → (∀ c, c < s → K c = 0 → sh' c = nI ((sg c + f c) % 251)) → post (m, h, nI s, r, pa, th, pr, pl, st, sh', de', we, fu)) :
    wpX_dealOntoShares post (m, h, nI s, rnd, pa, th, pr, pl, st, sh, de, we, fu) (nI num) := by
  have hs24 := hF.1
  obtain ⟨i, rfl⟩ : ∃ i, s = i + 1 := ⟨s - 1, by omega⟩
  unfold wpX_dealOntoShares
  dsimp only
  rw [nI_pred]
  refine And.intro (vp_in_nI (by omega) (by decide)) (nm_r (e' := upd de i (nI num)) (by rw [nI_clamp (show i < 2 ^ 31 by omega)]) (nm_e (Exists.intro (i + 1 + 1) ?_)))
  have := dl_19 hF h1 hsg hp (i + 1) (fun _ => num) rnd sh (upd de i (nI num)) (Nat.le_refl _) ⟨rfl, fun t g1 g2 => absurd g2 (by omega), fun c g1 g2 => ⟨fun g3 => absurd g3 (by omega), fun _ => rfl⟩, fun c g1 g2 => ?_⟩
  · rw [pk_m1] at this
    exact this
  · rcases g2 with e | ⟨t, g3, g4, _⟩
    · rw [e]; exact ⟨pk_us, hn⟩
    · exact absurd g4 (by omega)
end DL
