/-! putting together: choosePlaces, weightAtZero, weighChildren, putTogether -/
theorem op_ext {f : Nat → Nat} {n : Nat} : ∀ d, (∀ j, n ≤ j → j < n + d → f j = 0) → ma_sm f (n + d) = ma_sm f n := by
  intro d
  induction d with
  | zero => intro _; rfl
  | succ d ih =>
    intro h
    show ma_sm f (n + d) + f (n + d) = _
    rw [ih (fun j h1 h2 => h j h1 (by omega)), h (n + d) (by omega) (by omega)]; rfl
/-- the places chosen -/
def op_Ch (pr : Nat → Int32) (x f : Nat → Nat) (t k i C : Nat) : Prop :=
  C < 64 ∧ lz_pc C = min k (ma_sm (fun c => if pr c = nI t then f c else 0) i) ∧ ∀ q, q < 5 → lz_has C (q + 1) = true → ∃ c, c < i ∧ pr c = nI t ∧ f c = 1 ∧ x c = q
section OP
variable {m h S : Int32} {rnd : Int64} {pa th pr pl st sh de we fu : Nat → Int32} {K N : Nat → Nat} {s : Nat}
theorem op_cp7 {post : Int32 → Prop} {t k : Nat} {x f : Nat → Nat} (ht : t < 24) (hk : k ≤ 5) (hth : th t = nI k) (hx : ∀ c, c < t → pr c = nI t → pl c = nI (x c + 1) ∧ x c < 5) (hin : ∀ c d, c < t → d < t → pr c = nI t → pr d = nI t → x c = x d → c = d) (hf : ∀ c, c < t → fu c = nI (f c) ∧ f c ≤ 1)
    (hp : ∀ C, op_Ch pr x f t k t C → post (nI C)) :
    ∀ d i C, i + d = t → op_Ch pr x f t k i C → wX_choosePlaces_7 post (nI t) m h S rnd pa th pr pl st sh de we fu (d + 1) (nI C) (nI (lz_pc C)) (nI i) := by
  have it : vp_in (nI t) 24 := vp_in_nI (by omega) (by decide)
  have et := nI_clamp (show t < 2 ^ 31 by omega)
  intro d
  induction d with
  | zero =>
    intro i C hi I
    have : i = t := by omega
    subst this
    exact br_t (nI_le (by omega) (by omega)) (hp C I)
  | succ d ih =>
    intro i C hi I
    obtain ⟨I1, I2, I3⟩ := I
    have iv : vp_in (nI i) 24 := vp_in_nI (by omega) (by decide)
    have ec := nI_clamp (show i < 2 ^ 31 by omega)
    have h5 := lz_pc5 C I1
    have skip : lz_pc C = min k (ma_sm (fun c => if pr c = nI t then f c else 0) (i + 1)) → wX_choosePlaces_7 post (nI t) m h S rnd pa th pr pl st sh de we fu (d + 1) (nI C) (nI (lz_pc C)) (nI (i + 1)) := fun e =>
      ih (i + 1) C (by omega) ⟨I1, e, fun q hq hh => by
        obtain ⟨c, g1, g2⟩ := I3 q hq hh
        exact ⟨c, by omega, g2⟩⟩
    rw [ma_sm] at skip
    refine br_f (nI_ge (by omega) (by omega)) (And.intro iv ?_)
    rw [ec]
    refine br_c (fun hc => And.intro iv ?_) (fun hc => ?_)
    · obtain ⟨e1, e2⟩ := hf i (by omega)
      obtain ⟨e3, e4⟩ := hx i (by omega) hc
      rw [if_pos hc] at skip
      rw [e1]
      refine br_c (fun h2 => ?_) (fun h2 => ?_)
      · have : f i = 0 := (nI_eq (by omega) (by decide)).mp (h2.trans nI_0.symm)
        rw [this] at skip
        exact nm_r (nI_1 i) (skip I2)
      · have hf1 : f i = 1 := by
          rcases Nat.lt_or_ge (f i) 1 with z | z
          · exact absurd (by rw [show f i = 0 by omega]; exact nI_0) h2
          · omega
        refine And.intro it ?_
        rw [et, hth]
        refine pk_le k (lz_pc C) (fun hle => ?_) (fun hlt => ?_) rfl rfl (by omega) (by omega)
        · exact nm_r (nI_1 i) (skip (by omega))
        · refine And.intro iv ?_
          rw [e3]
          obtain ⟨o1, o2⟩ := lz_orI C I1 (x i) e4
          have hno : lz_has C (x i + 1) = false := by
            cases hb : lz_has C (x i + 1) with
            | false => rfl
            | true =>
              obtain ⟨c, g1, g2, _, g3⟩ := I3 (x i) e4 hb
              have := hin c i (by omega) (by omega) g2 hc g3
              omega
          have o3 := lz_or C I1 (x i) e4 hno
          refine nm_r o1 (nm_r (e' := nI (lz_pc (C ||| 2 ^ (x i + 1)))) (by rw [nI_1, o3]) (nm_r (nI_1 i) ?_))
          refine ih (i + 1) _ (by omega) ⟨o2, ?_, fun q hq hh => ?_⟩
          · rw [o3, ma_sm, if_pos hc, hf1]; omega
          · rw [lz_or2 C I1 (x i) e4 q hq, Bool.or_eq_true] at hh
            rcases hh with hh | hh
            · obtain ⟨c, g1, g2⟩ := I3 q hq hh
              exact ⟨c, by omega, g2⟩
            · exact ⟨i, by omega, hc, hf1, (beq_iff_eq.mp hh).symm⟩
    · rw [if_neg hc] at skip
      exact nm_r (nI_1 i) (skip I2)
theorem op_cp {post : Int32 → Prop} {t k : Nat} {x f : Nat → Nat} (ht : t < 24) (hk : k ≤ 5) (hth : th t = nI k) (hx : ∀ c, c < t → pr c = nI t → pl c = nI (x c + 1) ∧ x c < 5) (hin : ∀ c d, c < t → d < t → pr c = nI t → pr d = nI t → x c = x d → c = d) (hf : ∀ c, c < t → fu c = nI (f c) ∧ f c ≤ 1)
    (hp : ∀ C, op_Ch pr x f t k t C → post (nI C)) : wpX_choosePlaces post (m, h, S, rnd, pa, th, pr, pl, st, sh, de, we, fu) (nI t) :=
  Exists.intro (t + 1) (op_cp7 ht hk hth hx hin hf hp t 0 0 (by omega) ⟨by decide, by rw [ma_sm, Nat.min_zero]; rfl, fun q hq hh => absurd hh (by
    have : ∀ q, q < 5 → ¬ lz_has 0 (q + 1) = true := by decide
    exact this q hq)⟩)
theorem op_sub (a b c : Int32) : (a - b) + c = (a + c) - b := by grind
theorem op_wz17 {post : Int32 → Prop} {C x : Nat} (hC : C < 64) (hx : x < 6) : ∀ d o ab be, o + d = 6 → 0 < o → ab < 251 → be < 251 → post (nI (lz_lp C x d o ab be)) → wX_weightAtZero_17 post (nI C) (nI x) (d + 1) (nI ab) (nI be) (nI o) := by
  intro d
  induction d with
  | zero =>
    intro o ab be ho h0 ha hb hp
    refine br_t (nI_lt (a := 5) (by omega) (by omega)) ?_
    refine sw_power (e := 249) hb (by decide) (And.intro ba_251 ?_)
    have hq : be ^ 249 % 251 < 251 := Nat.mod_lt _ (by decide)
    have hm : ab * (be ^ 249 % 251) < 251 * 251 := Nat.mul_lt_mul'' ha hq
    rw [ba_rem _ (pk_mul _ _) (by omega)]
    exact hp
  | succ d ih =>
    intro o ab be ho h0 ha hb hp
    rw [lz_lp] at hp
    refine br_f (nI_nlt (a := 5) (by omega) (by omega)) ?_
    refine pk_eq o x (fun e => ?_) (fun e => ?_) rfl rfl (by omega) (by omega)
    · rw [if_pos e] at hp
      exact nm_r (nI_1 o) (ih (o + 1) ab be (by omega) (by omega) ha hb hp)
    · rw [if_neg e] at hp
      have hI := lz_hasI C hC o (by omega)
      refine sw_has (fun h1 => ?_) (fun h1 => ?_)
      · rw [if_pos (hI.mp h1)] at hp
        have hm1 : ab * o < 251 * 251 := Nat.mul_lt_mul'' ha (by omega)
        have hm2 : be * (o + 251 - x) < 251 * 300 := Nat.mul_lt_mul'' hb (by omega)
        refine br_f (by decide) (And.intro ba_251 (nm_r (ba_rem _ (pk_mul ab o) (by omega)) (And.intro ba_251 ?_)))
        refine nm_r (e' := nI (be * (o + 251 - x) % 251)) ?_ (nm_r (nI_1 o) ?_)
        · refine ba_rem _ ?_ (by omega)
          rw [op_sub, show (251 : Int32) = nI 251 from rfl, nI_add, pk_sub (by omega), pk_mul]
        · exact ih (o + 1) _ _ (by omega) (by omega) (Nat.mod_lt _ (by decide)) (Nat.mod_lt _ (by decide)) hp
      · rw [if_neg (fun z => h1 (hI.mpr z))] at hp
        exact br_t rfl (nm_r (nI_1 o) (ih (o + 1) ab be (by omega) (by omega) ha hb hp))
theorem op_wz {post : Int32 → Prop} {C x : Nat} (hC : C < 64) (hx : x < 6) (hp : post (nI (lz_w C x))) : wpX_weightAtZero post (nI C) (nI x) := by
  unfold wpX_weightAtZero
  have hI := lz_hasI C hC x hx
  rw [lz_w] at hp
  refine sw_has (fun h1 => ?_) (fun h1 => ?_)
  · rw [if_pos (hI.mp h1)] at hp
    exact br_f (by decide) (Exists.intro 6 (op_wz17 hC hx 5 1 1 1 (by omega) (by omega) (by decide) (by decide) hp))
  · rw [if_neg (fun z => h1 (hI.mpr z))] at hp
    exact br_t rfl hp
theorem op_wc {post : SX → Prop} {t k w : Nat} {x f : Nat → Nat} (ht : t < 24) (hk : k ≤ 5) (hth : th t = nI k) (hx : ∀ c, c < t → pr c = nI t → pl c = nI (x c + 1) ∧ x c < 5) (hin : ∀ c d, c < t → d < t → pr c = nI t → pr d = nI t → x c = x d → c = d) (hf : ∀ c, c < t → fu c = nI (f c) ∧ f c ≤ 1) (hw : we t = nI w) (hw2 : w < 251)
    (hp : ∀ C we', op_Ch pr x f t k t C → (∀ c, c < t → pr c = nI t → we' c = nI (w * lz_w C (x c + 1) % 251)) → (∀ c, ¬ (c < t ∧ pr c = nI t) → we' c = we c) → post (m, h, S, rnd, pa, th, pr, pl, st, sh, de, we', fu)) :
    wpX_weighChildren post (m, h, S, rnd, pa, th, pr, pl, st, sh, de, we, fu) (nI t) := by
  have it : vp_in (nI t) 24 := vp_in_nI (by omega) (by decide)
  have et := nI_clamp (show t < 2 ^ 31 by omega)
  unfold wpX_weighChildren
  dsimp only
  refine op_cp ht hk hth hx hin hf (fun C hC => ?_)
  have key : ∀ d i we1, i + d = t → (∀ c, c < i → pr c = nI t → we1 c = nI (w * lz_w C (x c + 1) % 251)) → (∀ c, ¬ (c < i ∧ pr c = nI t) → we1 c = we c) → wX_weighChildren_8 post (nI t) (nI C) m h S rnd (d + 1) (nI i) pa th pr pl st sh de we1 fu := by
    intro d
    induction d with
    | zero =>
      intro i we1 hi h1 h2
      have : i = t := by omega
      subst this
      exact br_t (nI_le (by omega) (by omega)) (hp C we1 hC h1 h2)
    | succ d ih =>
      intro i we1 hi h1 h2
      have iv : vp_in (nI i) 24 := vp_in_nI (by omega) (by decide)
      have ec := nI_clamp (show i < 2 ^ 31 by omega)
      refine br_f (nI_ge (by omega) (by omega)) (And.intro iv ?_)
      rw [ec]
      refine br_c (fun hc => And.intro it (And.intro iv ?_)) (fun hc => ?_)
      · obtain ⟨e1, e2⟩ := hx i (by omega) hc
        rw [e1]
        refine op_wz hC.1 (by omega) (And.intro ba_251 (And.intro iv ?_))
        have e5 : we1 t = nI w := (h2 t (fun z => absurd z.1 (by omega))).trans hw
        have hl := lz_wlt C hC.1 (x i + 1) (by omega)
        have hm : w * lz_w C (x i + 1) < 251 * 251 := Nat.mul_lt_mul'' hw2 hl
        refine nm_r (e' := upd we1 i (nI (w * lz_w C (x i + 1) % 251))) (by rw [et, e5, ba_rem _ (pk_mul _ _) (by omega)]) (nm_r (nI_1 i) ?_)
        refine ih (i + 1) _ (by omega) (fun c hc1 hc2 => ?_) (fun c hc1 => ?_)
        · by_cases e : c = i
          · rw [e]; exact pk_us
          · rw [pk_un e]; exact h1 c (by omega) hc2
        · have e : c ≠ i := fun z => hc1 ⟨by omega, by rw [z]; exact hc⟩
          rw [pk_un e]
          exact h2 c (fun z => hc1 ⟨by omega, z.2⟩)
      · refine nm_r (nI_1 i) (ih (i + 1) _ (by omega) (fun c hc1 hc2 => ?_) (fun c hc1 => ?_))
        · by_cases e : c = i
          · rw [e] at hc2; exact absurd hc2 hc
          · exact h1 c (by omega) hc2
        · exact h2 c (fun z => hc1 ⟨by omega, z.2⟩)
  exact Exists.intro (t + 1) (key t 0 we (by omega) (fun c hc => absurd hc (Nat.not_lt_zero _)) (fun c _ => rfl))
/-- the children's part of the sum -/
theorem op_lag (hF : fm_ok K N s pa th pr pl) {val F x : Nat → Nat} {sec : Nat} (hG : ma_Gd K N s val sec) {t C w : Nat} (ht : t < s) (hk : 0 < K t) (hC : op_Ch pr x F t (K t) t C) (hfu : w ≠ 0 → K t ≤ ma_sm (fun j => F (ma_ch K N t j)) (N t)) (hx : ∀ j, j < N t → x (ma_ch K N t j) = j) :
    ma_sm (fun c => if pr c = nI t then (w * lz_w C (x c + 1) % 251) * val c else 0) t % 251 = w * val t % 251 := by
  have hw := (hF.2.1 t ht).2 hk
  rw [fm_sum hF ht hk (fun c => (w * lz_w C (x c + 1) % 251) * val c)]
  obtain ⟨a, a0, ha⟩ := hG.2 t ht hk
  obtain ⟨C1, C2, C3⟩ := hC
  by_cases hw0 : w = 0
  · rw [hw0, Nat.zero_mul]
    rw [ma_sm_0 (fun j _ => by
      show 0 * _ % 251 * _ = 0
      rw [Nat.zero_mul, Nat.zero_mod, Nat.zero_mul])]
  · have hpc : lz_pc C = K t := by
      rw [C2, fm_sum hF ht hk F]
      have := hfu hw0
      omega
    have e1 : ma_sm (fun j => (w * lz_w C (x (ma_ch K N t j) + 1) % 251) * val (ma_ch K N t j)) (N t) % 251 = ma_sm (fun j => w * (lz_w C (j + 1) * ma_po a (K t) (j + 1))) (N t) % 251 := by
      refine ma_sm_mod (fun j hj => ?_)
      show (w * lz_w C (x (ma_ch K N t j) + 1) % 251) * val (ma_ch K N t j) % 251 = _
      rw [hx j hj, ← Nat.mul_assoc]
      exact ma_mm (Nat.mod_mod _ _) (ha j hj)
    have e2 : ma_sm (fun j => lz_w C (j + 1) * ma_po a (K t) (j + 1)) 5 = ma_sm (fun j => lz_w C (j + 1) * ma_po a (K t) (j + 1)) (N t) := by
      obtain ⟨d, hd⟩ : ∃ d, 5 = N t + d := ⟨5 - N t, by omega⟩
      rw [hd]
      refine op_ext d (fun j g1 g2 => ?_)
      have : lz_w C (j + 1) = 0 := by
        rw [lz_w]
        refine if_neg (fun z => ?_)
        obtain ⟨c, q1, q2, _, q3⟩ := C3 j (by omega) z
        obtain ⟨j2, q4, q5⟩ := hF.2.2.2.2.2 t ht hk c q1 q2
        rw [q5, hx j2 q4] at q3
        omega
      show lz_w C (j + 1) * _ = 0
      rw [this, Nat.zero_mul]
    rw [e1, ma_sm_mul w (fun j => lz_w C (j + 1) * ma_po a (K t) (j + 1)), ← e2]
    exact ma_mm rfl ((lz_main a C1 hpc hk).trans a0)
def op_fr (K : Nat → Nat) (s : Nat) (pr : Nat → Int32) (i c : Nat) : Prop := c = s - 1 ∨ ∃ t, i ≤ t ∧ t < s ∧ 0 < K t ∧ pr c = nI t
def op_Inv (K : Nat → Nat) (s : Nat) (pr : Nat → Int32) (F val : Nat → Nat) (sec i : Nat) (W : Nat → Nat) (q : Nat) (we1 : Nat → Int32) : Prop :=
  q < 251 ∧ (∀ c, c < i → op_fr K s pr i c → we1 c = nI (W c)) ∧ (∀ c, c < i → W c < 251 ∧ (W c ≠ 0 → F c = 1)) ∧ (∀ c, c < i → ¬ op_fr K s pr i c → W c = 0) ∧ (q + ma_sm (fun c => W c * val c) i) % 251 = sec % 251
theorem op_21 (hF : fm_ok K N s pa th pr pl) (h1 : ma_hh K N s = 1) {mask : Int32} {val : Nat → Nat} {sec : Nat} (hG : ma_Gd K N s val sec) (hsec : sec < 251) (hsh : ∀ c, c < s → K c = 0 → sh c = nI (val c % 251)) (hfu : ∀ c, c < s → fu c = nI (ma_F K N (ma_b mask) c)) {post : Int32 → SX → Prop}
    (hp : ∀ we', post (nI sec) (m, h, S, rnd, pa, th, pr, pl, st, sh, de, we', fu)) :
    ∀ i W q we1, i ≤ s → op_Inv K s pr (ma_F K N (ma_b mask)) val sec i W q we1 → wX_putTogether_21 post (i + 1) (nI q) (nI i + (-1)) m h S rnd pa th pr pl st sh de we1 fu := by
  have hs24 := hF.1
  intro i
  induction i with
  | zero =>
    intro W q we1 _ I
    obtain ⟨I1, _, _, _, I5⟩ := I
    refine br_t (by decide) ?_
    rw [ma_sm, Nat.add_zero, Nat.mod_eq_of_lt I1, Nat.mod_eq_of_lt hsec] at I5
    rw [I5]
    exact hp we1
  | succ i ih =>
    intro W q we1 hi I
    obtain ⟨I1, I2, I3, I4, I5⟩ := I
    rw [pk_m1]
    have iv : vp_in (nI i) 24 := vp_in_nI (by omega) (by decide)
    have ec := nI_clamp (show i < 2 ^ 31 by omega)
    have ew := I2 i (by omega) (by
      rcases fm_par hF h1 (c := i) (by omega) with e | ⟨t, g1, g2, g3, j, g4, g5, g6, g7⟩
      · exact Or.inl e
      · exact Or.inr ⟨t, by omega, g2, g3, g6⟩)
    obtain ⟨w1, w2⟩ := I3 i (by omega)
    rw [ma_sm] at I5
    refine br_f (nI_pos (by omega)) ?_
    by_cases hk : K i = 0
    · have hpa := hF.2.2.1 i (by omega) hk
      have hN := ((hF.2.1 i (by omega)).1 hk).1
      have up : ∀ c, op_fr K s pr i c → op_fr K s pr (i + 1) c := by
        intro c g
        rcases g with e | ⟨t, g3, g4, g5, g6⟩
        · exact Or.inl e
        · have : t ≠ i := fun z => by rw [z] at g5; omega
          exact Or.inr ⟨t, by omega, g4, g5, g6⟩
      have dn : ∀ c, op_fr K s pr (i + 1) c → op_fr K s pr i c := by
        intro c g
        rcases g with e | ⟨t, g3, g4, g5, g6⟩
        · exact Or.inl e
        · exact Or.inr ⟨t, by omega, g4, g5, g6⟩
      have nxt : ∀ q', q' < 251 → (q' + ma_sm (fun c => W c * val c) i) % 251 = sec % 251 → op_Inv K s pr (ma_F K N (ma_b mask)) val sec i W q' we1 := fun q' g1 g2 =>
        ⟨g1, fun c g3 g4 => I2 c (by omega) (up c g4), fun c g3 => I3 c (by omega), fun c g3 g4 => I4 c (by omega) (fun z => g4 (dn c z)), g2⟩
      refine sw_isLeaf (by omega) (fun z => absurd (hpa.symm.trans z) (ba_m1 (by omega))) (fun _ => ?_)
      refine br_f (by decide) (And.intro iv ?_)
      rw [ec, ew, hsh i (by omega) hk]
      refine br_c (fun hz => ?_) (fun hz => ?_)
      · have : W i = 0 := (nI_eq (by omega) (by decide)).mp (hz.trans nI_0.symm)
        rw [this, Nat.zero_mul, Nat.add_zero] at I5
        exact nm_e (ih W q we1 (by omega) (nxt q I1 I5))
      · have hv : val i % 251 < 251 := Nat.mod_lt _ (by decide)
        have hm : W i * (val i % 251) < 251 * 251 := Nat.mul_lt_mul'' w1 hv
        refine And.intro iv (And.intro iv (And.intro ba_251 (nm_r (e' := nI ((q + W i * (val i % 251)) % 251)) ?_ (nm_e (ih W _ we1 (by omega) (nxt _ (Nat.mod_lt _ (by decide)) ?_))))))
        · exact ba_rem _ (by rw [pk_mul, nI_add]) (by omega)
        · rw [← I5]
          have e1 : (q + W i * (val i % 251)) % 251 % 251 = (q + W i * val i) % 251 := by
            rw [Nat.mod_mod]
            exact ma_am rfl (ma_mm rfl (Nat.mod_mod _ _))
          have e2 := ma_am e1 (rfl : ma_sm (fun c => W c * val c) i % 251 = ma_sm (fun c => W c * val c) i % 251)
          rw [e2]
          congr 1
          omega
    · obtain ⟨hpa, hth⟩ := hF.2.2.2.1 i (by omega) (by omega)
      have hw := (hF.2.1 i (by omega)).2 (by omega)
      refine sw_isLeaf (by omega) (fun _ => ?_) (fun z => absurd hpa z)
      refine br_t rfl ?_
      have hxc : ∀ j, j < N i → (pl (ma_ch K N i j)).toNatClampNeg - 1 = j := by
        intro j hj
        rw [(hF.2.2.2.2.1 i (by omega) (by omega) j hj).2, nI_clamp (show j + 1 < 2 ^ 31 by omega)]
        omega
      refine op_wc (k := K i) (w := W i) (x := fun c => (pl c).toNatClampNeg - 1) (f := ma_F K N (ma_b mask)) (by omega) (by omega) hth (fun c g1 g2 => ?_) (fun c d g1 g2 g3 g4 g5 => ?_) (fun c g1 => ⟨hfu c (by omega), ma_F01 hF.2.1 mask (by omega)⟩) ew w1 (fun C we2 hC g1 g2 => ?_)
      · obtain ⟨j, hj, e⟩ := hF.2.2.2.2.2 i (by omega) (by omega) c g1 g2
        have := (hF.2.2.2.2.1 i (by omega) (by omega) j hj).2
        rw [← e] at this
        show pl c = nI ((pl c).toNatClampNeg - 1 + 1) ∧ (pl c).toNatClampNeg - 1 < 5
        rw [this, nI_clamp (show j + 1 < 2 ^ 31 by omega)]
        exact ⟨rfl, by omega⟩
      · obtain ⟨j, hj, e⟩ := hF.2.2.2.2.2 i (by omega) (by omega) c g1 g3
        obtain ⟨j2, hj2, e2⟩ := hF.2.2.2.2.2 i (by omega) (by omega) d g2 g4
        have g6 : (pl c).toNatClampNeg - 1 = (pl d).toNatClampNeg - 1 := g5
        rw [e, e2, hxc j hj, hxc j2 hj2] at g6
        rw [e, e2, g6]
      · refine nm_e (ih (fun c => if pr c = nI i then W i * lz_w C ((pl c).toNatClampNeg - 1 + 1) % 251 else W c) q we2 (by omega) ⟨I1, fun c q1 q2 => ?_, fun c q1 => ?_, fun c q1 q2 => ?_, ?_⟩)
        · show we2 c = nI (if pr c = nI i then _ else W c)
          by_cases e : pr c = nI i
          · rw [if_pos e]; exact g1 c q1 e
          · rw [if_neg e, g2 c (fun z => e z.2)]
            refine I2 c (by omega) ?_
            rcases q2 with z | ⟨t, g3, g4, g5, g6⟩
            · exact Or.inl z
            · have : t ≠ i := fun z => e (by rw [← z]; exact g6)
              exact Or.inr ⟨t, by omega, g4, g5, g6⟩
        · show (if pr c = nI i then _ else W c) < 251 ∧ ((if pr c = nI i then _ else W c) ≠ 0 → _)
          by_cases e : pr c = nI i
          · rw [if_pos e]
            refine ⟨Nat.mod_lt _ (by decide), fun hne => ?_⟩
            obtain ⟨j, hj, ej⟩ := hF.2.2.2.2.2 i (by omega) (by omega) c q1 e
            have hcx : (pl c).toNatClampNeg - 1 = j := by rw [ej]; exact hxc j hj
            rw [hcx] at hne
            have hh : lz_has C (j + 1) = true := by
              cases hb : lz_has C (j + 1) with
              | true => rfl
              | false =>
                refine absurd ?_ hne
                have : lz_w C (j + 1) = 0 := by rw [lz_w, hb]; rfl
                rw [this, Nat.mul_zero]
            obtain ⟨c2, k1, k2, k3, k4⟩ := hC.2.2 j (by omega) hh
            obtain ⟨j2, hj2, ej2⟩ := hF.2.2.2.2.2 i (by omega) (by omega) c2 k1 k2
            have k5 : (pl c2).toNatClampNeg - 1 = j := k4
            rw [ej2, hxc j2 hj2] at k5
            rw [ej, ← k5, ← ej2]
            exact k3
          · rw [if_neg e]; exact I3 c (by omega)
        · show (if pr c = nI i then _ else W c) = 0
          have e : ¬ pr c = nI i := fun z => q2 (Or.inr ⟨i, by omega, by omega, by omega, z⟩)
          rw [if_neg e]
          refine I4 c (by omega) (fun z => q2 ?_)
          rcases z with z | ⟨t, g3, g4, g5, g6⟩
          · exact Or.inl z
          · exact Or.inr ⟨t, by omega, g4, g5, g6⟩
        · have L := op_lag (w := W i) (x := fun c => (pl c).toNatClampNeg - 1) hF hG (by omega) (by omega) hC (fun hne => ?_) hxc
          · have e : ma_sm (fun c => (if pr c = nI i then W i * lz_w C ((pl c).toNatClampNeg - 1 + 1) % 251 else W c) * val c) i = ma_sm (fun c => W c * val c) i + ma_sm (fun c => if pr c = nI i then (W i * lz_w C ((pl c).toNatClampNeg - 1 + 1) % 251) * val c else 0) i := by
              rw [← ma_sm_add]
              refine ma_sm_congr (fun c hc => ?_)
              show (if pr c = nI i then _ else W c) * val c = W c * val c + if pr c = nI i then _ else 0
              by_cases e : pr c = nI i
              · rw [if_pos e, if_pos e]
                have : W c = 0 := I4 c (by omega) (fun z => by
                  rcases z with z | ⟨t, g3, g4, g5, g6⟩
                  · omega
                  · have := (nI_eq (by omega) (by omega)).mp (e.symm.trans g6)
                    omega)
                rw [this, Nat.zero_mul, Nat.zero_add]
              · rw [if_neg e, if_neg e, Nat.add_zero]
            have e2 : (q + ma_sm (fun c => (if pr c = nI i then W i * lz_w C ((pl c).toNatClampNeg - 1 + 1) % 251 else W c) * val c) i) % 251 = sec % 251 := by
              rw [e, ← I5]
              exact ma_am rfl (ma_am rfl L)
            exact e2
          · have := w2 hne
            rw [ma_F_eq hF.2.1 _ (by omega), ma_vl, if_neg hk] at this
            by_cases hle : K i ≤ ma_sm (fun j => ma_F K N (ma_b mask) (ma_ch K N i j)) (N i)
            · exact hle
            · rw [if_neg hle] at this; omega
theorem op_put (hF : fm_ok K N s pa th pr pl) (h1 : ma_hh K N s = 1) (h0 : 0 < s) {mask : Int32} {val : Nat → Nat} {sec : Nat} (hG : ma_Gd K N s val sec) (hsec : sec < 251) (hsh : ∀ c, c < s → K c = 0 → sh c = nI (val c % 251)) (hfu : ∀ c, c < s → fu c = nI (ma_F K N (ma_b mask) c)) (htop : ma_F K N (ma_b mask) (s - 1) = 1) {post : Int32 → SX → Prop}
    (hp : ∀ we', post (nI sec) (m, h, nI s, rnd, pa, th, pr, pl, st, sh, de, we', fu)) :
    wpX_putTogether post (m, h, nI s, rnd, pa, th, pr, pl, st, sh, de, we, fu) := by
  have hs24 := hF.1
  obtain ⟨i, rfl⟩ : ∃ i, s = i + 1 := ⟨s - 1, by omega⟩
  unfold wpX_putTogether
  dsimp only
  rw [nI_pred]
  refine And.intro (vp_in_nI (by omega) (by decide)) (nm_r (e' := upd we i (nI 1)) (by rw [nI_clamp (show i < 2 ^ 31 by omega)]; rfl) (nm_e (Exists.intro (i + 1 + 1) ?_)))
  have := op_21 hF h1 hG hsec hsh hfu hp (i + 1) (fun c => if c = i then 1 else 0) 0 (upd we i (nI 1)) (Nat.le_refl _) ⟨by decide, fun c g1 g2 => ?_, fun c g1 => ?_, fun c g1 g2 => ?_, ?_⟩
  · rw [pk_m1] at this
    exact this
  · rcases g2 with e | ⟨t, g3, g4, _⟩
    · have e2 : c = i := e
      show upd we i (nI 1) c = nI (if c = i then 1 else 0)
      rw [if_pos e2, e2]; exact pk_us
    · exact absurd g4 (by omega)
  · show (if c = i then 1 else 0) < 251 ∧ ((if c = i then 1 else 0) ≠ 0 → _)
    by_cases e : c = i
    · rw [if_pos e, e]; exact ⟨by decide, fun _ => htop⟩
    · rw [if_neg e]; exact ⟨by decide, fun z => absurd rfl z⟩
  · show (if c = i then 1 else 0) = 0
    have hne : ¬ c = i := fun z => g2 (Or.inl z)
    rw [if_neg hne]
  · have e : ma_sm (fun c => (if c = i then 1 else 0) * val c) (i + 1) = ma_sm (fun c => if c = i then val c else 0) (i + 1) := ma_sm_congr (fun c _ => by
      show (if c = i then 1 else 0) * val c = if c = i then val c else 0
      by_cases e : c = i
      · rw [if_pos e, if_pos e, Nat.one_mul]
      · rw [if_neg e, if_neg e, Nat.zero_mul])
    have e2 : (0 + ma_sm (fun c => (if c = i then 1 else 0) * val c) (i + 1)) % 251 = sec % 251 := by
      rw [e, ma_sm_one val i (i + 1), if_pos (by omega), Nat.zero_add]
      exact hG.1
    exact e2
end OP
