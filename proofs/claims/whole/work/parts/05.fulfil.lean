/-! fulfils, on both sides -/
def fm_ok (K N : Nat → Nat) (s : Nat) (pa th pr pl : Nat → Int32) : Prop :=
  s ≤ 24 ∧ ma_wf K N s ∧ (∀ i, i < s → K i = 0 → pa i = nI (N i)) ∧ (∀ i, i < s → 0 < K i → pa i = -1 ∧ th i = nI (K i)) ∧
  (∀ t, t < s → 0 < K t → ∀ j, j < N t → pr (ma_ch K N t j) = nI t ∧ pl (ma_ch K N t j) = nI (j + 1)) ∧
  (∀ t, t < s → 0 < K t → ∀ c, c < t → pr c = nI t → ∃ j, j < N t ∧ c = ma_ch K N t j)
theorem fm_wf {K N : Nat → Nat} {s : Nat} {pa th pr pl : Nat → Int32} (h : fm_ok K N s pa th pr pl) : ma_wf K N s := h.2.1
/-- a sum over the children, as the class walks them -/
theorem fm_sum {K N : Nat → Nat} {s : Nat} {pa th pr pl : Nat → Int32} (h : fm_ok K N s pa th pr pl) {t : Nat} (ht : t < s) (hk : 0 < K t) (F : Nat → Nat) :
    ma_sm (fun c => if pr c = nI t then F c else 0) t = ma_sm (fun j => F (ma_ch K N t j)) (N t) :=
  ma_sm_ch F (fun j hj => ma_ch_lt h.2.1 ht hk hj) (fun j hj => (h.2.2.2.2.1 t ht hk j hj).1) (fun i j hi hj e => ma_ch_inj h.2.1 ht hk hi hj e) (fun c hc e => h.2.2.2.2.2 t ht hk c hc e)
/-- the top of a whole formula -/
theorem fm_top {K N : Nat → Nat} {s : Nat} (h1 : ma_hh K N s = 1) (h0 : 0 < s) : ma_sk K N s 0 = s - 1 := by
  obtain ⟨i, rfl⟩ : ∃ i, s = i + 1 := ⟨s - 1, by omega⟩
  rw [ma_hh] at h1
  show (if 0 = ma_hh K N i - ma_ar K N i then i else _) = _
  rw [if_pos (by omega)]; omega
/-- each node but the top has a gate above it -/
theorem fm_par {K N : Nat → Nat} {s : Nat} {pa th pr pl : Nat → Int32} (h : fm_ok K N s pa th pr pl) (h1 : ma_hh K N s = 1) {c : Nat} (hc : c < s) : c = s - 1 ∨ ∃ t, c < t ∧ t < s ∧ 0 < K t ∧ ∃ j, j < N t ∧ c = ma_ch K N t j ∧ pr c = nI t ∧ pl c = nI (j + 1) := by
  rcases ma_cover h.2.1 s (Nat.le_refl _) c hc with ⟨p, hp, e⟩ | ⟨t, ht, hk, j, hj, e⟩
  · rw [h1] at hp
    rw [show p = 0 by omega, fm_top h1 (by omega)] at e
    exact Or.inl e
  · have h2 := h.2.2.2.2.1 t ht hk j hj
    rw [← e] at h2
    exact Or.inr ⟨t, by rw [e]; exact ma_ch_lt h.2.1 ht hk hj, ht, hk, j, hj, e, h2⟩
section FX
variable {m h : Int32} {rnd : Int64} {pa th pr pl st sh de we fu : Nat → Int32} {K N : Nat → Nat} {s : Nat}
theorem fx_cnt4 {S : Int32} {post : Int32 → Prop} {t : Nat} {f : Nat → Nat} (ht : t < 24) (hf : ∀ c, c < t → fu c = nI (f c) ∧ f c ≤ 1) (hp : post (nI (ma_sm (fun c => if pr c = nI t then f c else 0) t))) :
    ∀ d i, i + d = t → wX_countFulfilled_4 post (nI t) m h S rnd pa th pr pl st sh de we fu (d + 1) (nI (ma_sm (fun c => if pr c = nI t then f c else 0) i)) (nI i) := by
  intro d
  induction d with
  | zero =>
    intro i hi
    have : i = t := by omega
    subst this
    exact br_t (nI_le (by omega) (by omega)) hp
  | succ d ih =>
    intro i hi
    have iv : vp_in (nI i) 24 := vp_in_nI (by omega) (by decide)
    have hs := ih (i + 1) (by omega)
    rw [ma_sm] at hs
    refine br_f (nI_ge (by omega) (by omega)) (And.intro iv ?_)
    rw [nI_clamp (show i < 2 ^ 31 by omega)]
    refine br_c (fun h1 => And.intro iv ?_) (fun h1 => ?_)
    · rw [if_pos h1] at hs
      obtain ⟨e1, e2⟩ := hf i (by omega)
      rw [e1]
      refine br_c (fun h2 => ?_) (fun h2 => ?_)
      · have : f i = 0 := (nI_eq (by omega) (by decide)).mp (h2.trans nI_0.symm)
        rw [this] at hs
        exact nm_r (nI_1 i) hs
      · have : f i = 1 := by
          rcases Nat.lt_or_ge (f i) 1 with z | z
          · exact absurd (by rw [show f i = 0 by omega]; exact nI_0) h2
          · omega
        rw [this] at hs
        exact nm_r (nI_1 _) (nm_r (nI_1 i) hs)
    · rw [if_neg h1] at hs
      exact nm_r (nI_1 i) hs
theorem fx_cnt {S : Int32} {post : Int32 → Prop} {t : Nat} {f : Nat → Nat} (ht : t < 24) (hf : ∀ c, c < t → fu c = nI (f c) ∧ f c ≤ 1) (hp : post (nI (ma_sm (fun c => if pr c = nI t then f c else 0) t))) :
    wpX_countFulfilled post (m, h, S, rnd, pa, th, pr, pl, st, sh, de, we, fu) (nI t) :=
  Exists.intro (t + 1) (fx_cnt4 ht hf hp t 0 (by omega))
theorem fx_4 {mask : Int32} (hF : fm_ok K N s pa th pr pl) {post : Int32 → SX → Prop} (hp : ∀ fu', (∀ c, c < s → fu' c = nI (ma_F K N (ma_b mask) c)) → post (nI (ma_F K N (ma_b mask) (s - 1))) (m, h, nI s, rnd, pa, th, pr, pl, st, sh, de, we, fu')) :
    ∀ d i x fu1, i + d = s → (i = s → x = nI (ma_F K N (ma_b mask) (s - 1)) ∧ 0 < s) → (∀ c, c < i → fu1 c = nI (ma_F K N (ma_b mask) c)) → wX_fulfils_4 post mask m h (nI s) rnd (d + 1) x (nI i) pa th pr pl st sh de we fu1 := by
  have hs24 := hF.1
  intro d
  induction d with
  | zero =>
    intro i x fu1 hi hx hc
    have : i = s := by omega
    subst this
    obtain ⟨rfl, h0⟩ := hx rfl
    refine br_t (nI_le (by omega) (by omega)) (And.intro ?_ (hp fu1 hc))
    have := ma_F01 hF.2.1 mask (i := i - 1) (by omega)
    rcases Nat.lt_or_ge (ma_F K N (ma_b mask) (i - 1)) 1 with z | z
    · rw [show ma_F K N (ma_b mask) (i - 1) = 0 by omega]; exact ba_nw0
    · rw [show ma_F K N (ma_b mask) (i - 1) = 1 by omega]; exact ba_nw1
  | succ d ih =>
    intro i x fu1 hi hx hc
    have iv : vp_in (nI i) 24 := vp_in_nI (by omega) (by decide)
    have ec := nI_clamp (show i < 2 ^ 31 by omega)
    have hFe := ma_F_eq hF.2.1 (ma_b mask) (i := i) (by omega)
    -- the end of each turn
    have fin : ∀ z : Nat, z ≤ 1 → ma_F K N (ma_b mask) i = z → wX_fulfils_4 post mask m h (nI s) rnd (d + 1) (nI z) (nI (i + 1)) pa th pr pl st sh de we (upd fu1 i (nI z)) := by
      intro z _ ez
      refine ih (i + 1) _ _ (by omega) (fun e => ⟨by rw [← ez, show i = s - 1 by omega], by omega⟩) (fun c hc2 => ?_)
      by_cases e : c = i
      · rw [e, ez]; exact pk_us
      · rw [pk_un e]; exact hc c (by omega)
    refine br_f (nI_ge (by omega) (by omega)) ?_
    by_cases hk : K i = 0
    · have hpa := hF.2.2.1 i (by omega) hk
      have hN := ((hF.2.1 i (by omega)).1 hk).1
      refine sw_isLeaf (by omega) (fun z => absurd (hpa.symm.trans z) (ba_m1 (by omega))) (fun _ => ?_)
      refine br_f (by decide) (And.intro iv ?_)
      rw [ec, hpa]
      rw [ma_vl, if_pos hk, ma_b] at hFe
      refine sw_has (fun h1 => ?_) (fun h1 => ?_)
      · rw [if_pos h1] at hFe
        exact And.intro iv (nm_r (e' := upd fu1 i (nI 1)) rfl (nm_r (nI_1 i) (fin 1 (by omega) hFe)))
      · rw [if_neg h1] at hFe
        exact And.intro iv (nm_r (e' := upd fu1 i (nI 0)) rfl (nm_r (nI_1 i) (fin 0 (by omega) hFe)))
    · obtain ⟨hpa, hth⟩ := hF.2.2.2.1 i (by omega) (by omega)
      have hw := (hF.2.1 i (by omega)).2 (by omega)
      refine sw_isLeaf (by omega) (fun _ => ?_) (fun z => absurd hpa z)
      refine br_t rfl ?_
      refine fx_cnt (f := ma_F K N (ma_b mask)) (by omega) (fun c hc2 => ⟨hc c hc2, ma_F01 hF.2.1 mask (by omega)⟩) ?_
      rw [fm_sum hF (by omega) (by omega)]
      rw [ma_vl, if_neg hk] at hFe
      have hb : ma_sm (fun j => ma_F K N (ma_b mask) (ma_ch K N i j)) (N i) < 100 := by
        have : ∀ n, n ≤ N i → ma_sm (fun j => ma_F K N (ma_b mask) (ma_ch K N i j)) n ≤ n := by
          intro n
          induction n with
          | zero => intro _; exact Nat.le_refl _
          | succ n ihn =>
            intro hn
            have h1 := ihn (by omega)
            have h2 := ma_F01 hF.2.1 mask (i := ma_ch K N i n) (by
              have := ma_ch_lt hF.2.1 (t := i) (by omega) (by omega) (j := n) (by omega)
              omega)
            rw [ma_sm]; omega
        have := this _ (Nat.le_refl _)
        omega
      refine And.intro iv ?_
      rw [ec, hth]
      refine pk_lt _ _ (fun hlt => ?_) (fun hge => ?_) rfl rfl (by omega) (by omega)
      · rw [if_neg (by omega)] at hFe
        exact And.intro iv (nm_r (e' := upd fu1 i (nI 0)) (by rw [ec]; rfl) (nm_r (nI_1 i) (fin 0 (by omega) hFe)))
      · rw [if_pos hge] at hFe
        exact And.intro iv (nm_r (e' := upd fu1 i (nI 1)) (by rw [ec]; rfl) (nm_r (nI_1 i) (fin 1 (by omega) hFe)))
theorem fx_ful {mask : Int32} (hF : fm_ok K N s pa th pr pl) (h0 : 0 < s) {post : Int32 → SX → Prop} (hp : ∀ fu', (∀ c, c < s → fu' c = nI (ma_F K N (ma_b mask) c)) → post (nI (ma_F K N (ma_b mask) (s - 1))) (m, h, nI s, rnd, pa, th, pr, pl, st, sh, de, we, fu')) :
    wpX_fulfils post (m, h, nI s, rnd, pa, th, pr, pl, st, sh, de, we, fu) mask :=
  Exists.intro (s + 1) (fx_4 hF hp s 0 0 fu (by omega) (fun z => absurd z (by omega)) (fun c hc => absurd hc (Nat.not_lt_zero _)))
end FX
section FY
variable {m h c0 : Int32} {ka na sK sN ys : Nat → Int32} {K N : Nat → Nat} {s : Nat}
theorem fy_48 {S mask : Int32} {post : Int32 → SY → Prop} {J : Int32 → Int32 → (Nat → Int32) → (Nat → Int32) → (Nat → Int32) → (Nat → Int32) → (Nat → Int32) → Prop} {i H n : Nat} {g : Nat → Nat} (hi : i < 24) (hH : H ≤ 6) (hn : n ≤ H) (hN : sN i = nI n) (hg : ∀ q, q < n → ys (H - (q + 1)) = nI (g q) ∧ g q ≤ 1)
    (hp : wY_fulfils_86 post J mask (nI H) (nI i) (nI (ma_sm g n)) m h S c0 ka na sK sN ys) :
    ∀ d q, q + d = n → wY_fulfils_48 post J mask (nI H) (nI i) m h S c0 ka na sK sN ys (d + 1) (nI (ma_sm g q)) (nI (q + 1)) := by
  have iv : vp_in (nI i) 24 := vp_in_nI (by omega) (by decide)
  have ec := nI_clamp (show i < 2 ^ 31 by omega)
  intro d
  induction d with
  | zero =>
    intro q hq
    have : q = n := by omega
    subst this
    refine And.intro iv ?_
    rw [ec, hN]
    exact br_t (nI_lt (by omega) (by omega)) hp
  | succ d ih =>
    intro q hq
    have hs := ih (q + 1) (by omega)
    rw [ma_sm] at hs
    refine And.intro iv ?_
    rw [ec, hN]
    refine br_f (nI_nlt (by omega) (by omega)) (br_f (nI_nlt (by omega) (by omega)) ?_)
    rw [pk_sub (by omega)]
    refine And.intro (vp_in_nI (by omega) (by decide)) ?_
    obtain ⟨e1, e2⟩ := hg q (by omega)
    rw [nI_clamp (show H - (q + 1) < 2 ^ 31 by omega), e1]
    refine br_c (fun h2 => ?_) (fun h2 => ?_)
    · have : g q = 0 := (nI_eq (by omega) (by decide)).mp (h2.trans nI_0.symm)
      rw [this] at hs
      exact nm_r (nI_1 _) hs
    · have : g q = 1 := by
        rcases Nat.lt_or_ge (g q) 1 with z | z
        · exact absurd (by rw [show g q = 0 by omega]; exact nI_0) h2
        · omega
      rw [this] at hs
      exact nm_r (nI_1 _) (nm_r (nI_1 _) hs)
theorem fy_4 {mask : Int32} (hs24 : s ≤ 24) (hW : ma_wf K N s) (h1 : ma_hh K N s = 1) (h0 : 0 < s) (hK : ∀ i, i < s → sK i = nI (K i)) (hN : ∀ i, i < s → sN i = nI (N i)) {post : Int32 → SY → Prop} (hp : ∀ ys', post (nI (ma_F K N (ma_b mask) (s - 1))) (m, h, nI s, c0, ka, na, sK, sN, ys')) :
    ∀ d i ys1, i + d = s → (∀ p, p < ma_hh K N i → ys1 p = nI (ma_F K N (ma_b mask) (ma_sk K N i p))) → wY_fulfils_4 post mask m h (nI s) c0 (d + 1) (nI (ma_hh K N i)) (nI i) ka na sK sN ys1 := by
  intro d
  induction d with
  | zero =>
    intro i ys1 hi hc
    have : i = s := by omega
    subst this
    have e := hc 0 (by omega)
    rw [fm_top h1 h0] at e
    refine br_t (nI_le (by omega) (by omega)) ?_
    rw [e]
    refine And.intro ?_ (hp ys1)
    have := ma_F01 hW mask (i := i - 1) (by omega)
    rcases Nat.lt_or_ge (ma_F K N (ma_b mask) (i - 1)) 1 with z | z
    · rw [show ma_F K N (ma_b mask) (i - 1) = 0 by omega]; exact ba_nw0
    · rw [show ma_F K N (ma_b mask) (i - 1) = 1 by omega]; exact ba_nw1
  | succ d ih =>
    intro i ys1 hi hc
    have iv : vp_in (nI i) 24 := vp_in_nI (by omega) (by decide)
    have ec := nI_clamp (show i < 2 ^ 31 by omega)
    have hFe := ma_F_eq hW (ma_b mask) (i := i) (by omega)
    have hh6 := ma_hh_le hW i (by omega)
    have har := ma_ar_le hW (i := i) (by omega)
    have hw := hW i (by omega)
    have hKb : K i ≤ 5 := by
      rcases Nat.eq_zero_or_pos (K i) with z | z
      · omega
      · have := hw.2 z; omega
    have fin : ∀ z : Nat, z ≤ 1 → ma_F K N (ma_b mask) i = z → wY_fulfils_113 post (wY_fulfils_4 post mask m h (nI s) c0 (d + 1)) mask (nI (ma_hh K N i - ma_ar K N i)) (nI i) (nI z) m h (nI s) c0 ka na sK sN ys1 := by
      intro z hz ez
      have h6 := ma_hh_le hW (i + 1) (by omega)
      rw [ma_hh] at h6
      refine And.intro (vp_in_nI (by omega) (by decide)) (nm_r (e' := upd ys1 (ma_hh K N i - ma_ar K N i) (nI z)) ?_ (nm_r (nI_1 _) (nm_r (nI_1 i) ?_)))
      · rw [nI_clamp (show ma_hh K N i - ma_ar K N i < 2 ^ 31 by omega)]
        rcases Nat.lt_or_ge z 1 with y | y
        · rw [show z = 0 by omega]; rfl
        · rw [show z = 1 by omega]; rfl
      · refine ih (i + 1) _ (by omega) (fun p hp2 => ?_)
        rw [ma_hh] at hp2
        show _ = nI (ma_F K N (ma_b mask) (if p = ma_hh K N i - ma_ar K N i then i else ma_sk K N i p))
        by_cases e : p = ma_hh K N i - ma_ar K N i
        · rw [if_pos e, e, ez]; exact pk_us
        · rw [if_neg e, pk_un e]; exact hc p (by omega)
    have mid : ∀ z : Nat, z ≤ 1 → z = ma_b mask (N i) → wY_fulfils_31 post (wY_fulfils_4 post mask m h (nI s) c0 (d + 1)) mask (nI (ma_hh K N i)) (nI i) (nI z) m h (nI s) c0 ka na sK sN ys1 := by
      intro z hz ez
      refine And.intro iv ?_
      rw [ec, hK i (by omega)]
      by_cases hk : K i = 0
      · have ha : ma_ar K N i = 0 := by rw [ma_ar, if_pos hk]
        have := fin z hz (by rw [hFe, ma_vl, if_pos hk]; exact ez.symm)
        rw [ha, Nat.sub_zero] at this
        refine br_t ?_ this
        rw [hk]; decide
      · have ha : ma_ar K N i = N i := by rw [ma_ar, if_neg hk]
        have hw2 := hw.2 (by omega)
        refine br_f (nI_nle (by omega) (by omega)) ?_
        refine Exists.intro (N i + 1) ?_
        refine fy_48 (H := ma_hh K N i) (n := N i) (g := fun q => ma_F K N (ma_b mask) (ma_ch K N i (N i - 1 - q))) (by omega) hh6 (by omega) (hN i (by omega)) (fun q hq => ?_) ?_ (N i) 0 (by omega)
        · refine ⟨?_, ma_F01 hW mask ?_⟩
          · rw [hc _ (by omega), ma_ch]
            congr 3
            omega
          · have := ma_ch_lt hW (t := i) (by omega) (by omega) (j := N i - 1 - q) (by omega)
            omega
        · rw [ma_sm_rev (fun j => ma_F K N (ma_b mask) (ma_ch K N i j)) (N i)]
          rw [ma_vl, if_neg hk] at hFe
          have hb : ma_sm (fun j => ma_F K N (ma_b mask) (ma_ch K N i j)) (N i) < 100 := by
            have : ∀ n, n ≤ N i → ma_sm (fun j => ma_F K N (ma_b mask) (ma_ch K N i j)) n ≤ n := by
              intro n
              induction n with
              | zero => intro _; exact Nat.le_refl _
              | succ n ihn =>
                intro hn
                have h1 := ihn (by omega)
                have h2 := ma_F01 hW mask (i := ma_ch K N i n) (by
                  have := ma_ch_lt hW (t := i) (by omega) (by omega) (j := n) (by omega)
                  omega)
                rw [ma_sm]; omega
            have := this _ (Nat.le_refl _)
            omega
          refine And.intro iv ?_
          rw [ec, hK i (by omega)]
          refine pk_lt _ _ (fun hlt => ?_) (fun hge => ?_) rfl rfl (by omega) (by omega)
          · rw [if_neg (by omega)] at hFe
            have := fin 0 (by omega) hFe
            rw [ha] at this
            refine And.intro iv (nm_r (e' := nI (ma_hh K N i - N i)) (by rw [ec, hN i (by omega), pk_sub (by omega)]) this)
          · rw [if_pos hge] at hFe
            have := fin 1 (by omega) hFe
            rw [ha] at this
            refine And.intro iv (nm_r (e' := nI (ma_hh K N i - N i)) (by rw [ec, hN i (by omega), pk_sub (by omega)]) this)
    refine br_f (nI_ge (by omega) (by omega)) (And.intro iv ?_)
    rw [ec, hN i (by omega)]
    refine br_c (fun hb => ?_) (fun hb => ?_)
    · exact mid 1 (by omega) (by rw [ma_b, if_pos hb])
    · exact mid 0 (by omega) (by rw [ma_b, if_neg hb])
theorem fy_ful {mask : Int32} (hs24 : s ≤ 24) (hW : ma_wf K N s) (h1 : ma_hh K N s = 1) (h0 : 0 < s) (hK : ∀ i, i < s → sK i = nI (K i)) (hN : ∀ i, i < s → sN i = nI (N i)) {post : Int32 → SY → Prop} (hp : ∀ ys', post (nI (ma_F K N (ma_b mask) (s - 1))) (m, h, nI s, c0, ka, na, sK, sN, ys')) :
    wpY_fulfils post (m, h, nI s, c0, ka, na, sK, sN, ys) mask :=
  Exists.intro (s + 1) (fy_4 hs24 hW h1 h0 hK hN hp s 0 ys (by omega) (fun p hp2 => absurd hp2 (Nat.not_lt_zero _)))
end FY
