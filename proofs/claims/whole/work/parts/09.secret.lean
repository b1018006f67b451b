/-! share, add, scale, refresh, open -/
theorem vc_250 {p : Nat} (h : p < 251) : nI p ≤ 250 := nI_le (b := 250) (by omega) (by decide)
theorem vc_n250 {p : Int32} (h : (251 : Int32) ≤ p) : ¬ p ≤ 250 := fun z => absurd (Int32.le_trans h z) (by decide)
theorem vc_n0 {p : Int32} (h : (251 : Int32) ≤ p) : ¬ p < 0 := fun z => absurd (Int32.lt_of_le_of_lt h z) (by decide)
theorem sy_27 {post : Int32 → SY → Prop} {m h S c x : Int32} {ka na ys : Nat → Int32} (hp : ∀ sK' sN', (∀ j, j < 24 → sK' j = ka j ∧ sN' j = na j) → post 0 (m, h, m, x, ka, na, sK', sN', ys)) :
    ∀ d i sK1 sN1, i + d = 24 → (∀ j, j < i → sK1 j = ka j ∧ sN1 j = na j) → wY_share_27 post x m h S c (d + 1) (nI i) ka na sK1 sN1 ys := by
  intro d
  induction d with
  | zero =>
    intro i sK1 sN1 hi h1
    exact br_t (nI_le (a := 24) (by omega) (by omega)) (hp sK1 sN1 (fun j hj => h1 j (by omega)))
  | succ d ih =>
    intro i sK1 sN1 hi h1
    have iv : vp_in (nI i) 24 := vp_in_nI (by omega) (by decide)
    have ec := nI_clamp (show i < 2 ^ 31 by omega)
    refine br_f (nI_ge (b := 24) (by omega) (by omega)) (And.intro iv (And.intro iv ?_))
    refine nm_r (e' := upd sK1 i (ka i)) (by rw [ec]) (And.intro iv (And.intro iv ?_))
    refine nm_r (e' := upd sN1 i (na i)) (by rw [ec]) (nm_r (nI_1 i) ?_)
    refine ih (i + 1) _ _ (by omega) (fun j hj => ?_)
    by_cases e : j = i
    · rw [e]; exact ⟨pk_us, pk_us⟩
    · rw [pk_un e, pk_un e]; exact h1 j (by omega)
theorem i_vc_share {k : Nat} {u : SX} {v : SY} (I : i_Rel k u v) (hk : k + 3 ≤ 1537) (v1 : Int32) : wpX_share (fun r u' => wpY_share (fun r' v' => r' = r ∧ i_Rel (k + 3) u' v') v v1) u v1 := by
  obtain ⟨M, H, s, c, rnd, pa, th, pr, pl, st, sh, de, we, fu, ka, na, sK, sN, ys, K, N, rfl, rfl, R, RY, RS⟩ := I
  have keep := rl_mk (k := k + 3) (rnd := rnd) (de := de) (we := we) (fu := fu) (ys := ys) R RY RS
  have hM24 := R.1
  by_cases hH : nI H = 1
  · have h1 : H = 1 := (nI_eq (b := 1) (by
      have := ma_hh_le R.2.1 M (Nat.le_refl _)
      have := R.2.2.1
      omega) (by decide)).mp hH
    have hh1 : ma_hh K N M = 1 := R.2.2.1.symm.trans h1
    have h0 : 0 < M := by
      rcases Nat.eq_zero_or_pos M with z | z
      · rw [z] at hh1; exact absurd hh1 (by rw [ma_hh]; decide)
      · exact z
    refine br_t hH (sw_isSecret (fun z => ?_) (fun p hp e => ?_) (fun z => ?_))
    · exact br_t rfl (br_t hH (br_t z ⟨rfl, keep⟩))
    · subst e
      refine br_f (by decide) (sw_forget (fun sh' hz => ?_))
      refine dl_deal (rl_fm R (Nat.le_refl M)) hh1 h0 (sg := fun _ => 0) (fun i hi _ => ⟨hz i (by omega), by decide⟩) hp (fun r sh2 de2 f hG hsh => ?_)
      refine br_t hH (br_f (nI_pos (by omega)) (br_t (vc_250 hp) (Exists.intro 25 ?_)))
      refine sy_27 (fun sK' sN' hc => ?_) 24 0 sK sN (by omega) (fun j hj => absurd hj (Nat.not_lt_zero _))
      refine ⟨rfl, rl_mk R RY ⟨Nat.le_refl _, hp, fun _ => ⟨hh1, fun i hi => ?_, f, hG, fun i hi hk0 => ?_⟩⟩⟩
      · rw [(hc i (by omega)).1, (hc i (by omega)).2]; exact RY i hi
      · have := hsh i hi hk0
        rw [Nat.zero_add] at this
        exact this
    · exact br_t rfl (br_t hH (br_f (vc_n0 z) (br_f (vc_n250 z) ⟨rfl, keep⟩)))
  · exact br_f hH (br_f hH ⟨rfl, keep⟩)
theorem i_vc_add {k : Nat} {u : SX} {v : SY} (I : i_Rel k u v) (hk : k + 3 ≤ 1537) (v1 : Int32) : wpX_add (fun r u' => wpY_add (fun r' v' => r' = r ∧ i_Rel (k + 3) u' v') v v1) u v1 := by
  obtain ⟨M, H, s, c, rnd, pa, th, pr, pl, st, sh, de, we, fu, ka, na, sK, sN, ys, K, N, rfl, rfl, R, RY, RS⟩ := I
  have keep := rl_mk (k := k + 3) (rnd := rnd) (de := de) (we := we) (fu := fu) (ys := ys) R RY RS
  have hM24 := R.1
  have hsM := RS.1
  have hc := RS.2.1
  unfold wpX_add
  dsimp only
  refine sw_isSecret (fun z => ?_) (fun p hp e => ?_) (fun z => ?_)
  · exact br_t rfl (br_t z ⟨rfl, keep⟩)
  · subst e
    refine br_f (by decide) ?_
    by_cases hs : s = 0
    · have : nI s = 0 := by rw [hs]; rfl
      exact br_t this (br_f (nI_pos (by omega)) (br_t (vc_250 hp) (br_t this ⟨rfl, keep⟩)))
    · have hn : ¬ nI s = 0 := nI_ne0 (by omega) (by omega)
      obtain ⟨h1, h2, val, h3, h4⟩ := RS.2.2 (by omega)
      refine br_f hn ?_
      refine dl_deal (rl_fm R hsM) h1 (by omega) (sg := fun i => val i % 251) (fun i hi hk0 => ⟨h4 i hi hk0, Nat.mod_lt _ (by decide)⟩) hp (fun r sh2 de2 f hG hsh => ?_)
      refine br_f (nI_pos (by omega)) (br_t (vc_250 hp) (br_f hn (And.intro ba_251 (nm_r (ba_rem _ (nI_add c p) (by omega)) ⟨rfl, ?_⟩))))
      refine rl_mk R RY ⟨hsM, Nat.mod_lt _ (by decide), fun _ => ⟨h1, h2, fun i => val i + f i, ma_Gd_c (ma_Gd_add h3 hG) (Nat.mod_mod _ _).symm, fun i hi hk0 => ?_⟩⟩
      exact (hsh i hi hk0).trans (congrArg nI (ma_am (Nat.mod_mod _ _) rfl))
  · exact br_t rfl (br_f (vc_n0 z) (br_f (vc_n250 z) ⟨rfl, keep⟩))
theorem i_vc_refresh {k : Nat} {u : SX} {v : SY} (I : i_Rel k u v) (hk : k + 3 ≤ 1537) : wpX_refresh (fun r u' => wpY_refresh (fun r' => r' = r ∧ i_Rel (k + 3) u' v) v) u := by
  obtain ⟨M, H, s, c, rnd, pa, th, pr, pl, st, sh, de, we, fu, ka, na, sK, sN, ys, K, N, rfl, rfl, R, RY, RS⟩ := I
  have keep := rl_mk (k := k + 3) (rnd := rnd) (de := de) (we := we) (fu := fu) (ys := ys) R RY RS
  have hM24 := R.1
  have hsM := RS.1
  have hc := RS.2.1
  by_cases hs : s = 0
  · have : nI s = 0 := by rw [hs]; rfl
    exact br_t this (br_t this ⟨rfl, keep⟩)
  · have hn : ¬ nI s = 0 := nI_ne0 (by omega) (by omega)
    obtain ⟨h1, h2, val, h3, h4⟩ := RS.2.2 (by omega)
    refine br_f hn ?_
    refine dl_deal (num := 0) (rl_fm R hsM) h1 (by omega) (sg := fun i => val i % 251) (fun i hi hk0 => ⟨h4 i hi hk0, Nat.mod_lt _ (by decide)⟩) (by decide) (fun r sh2 de2 f hG hsh => ?_)
    refine br_f hn ⟨rfl, rl_mk R RY ⟨hsM, hc, fun _ => ⟨h1, h2, fun i => val i + f i, ma_Gd_add h3 hG, fun i hi hk0 => ?_⟩⟩⟩
    rw [hsh i hi hk0]
    exact congrArg nI (ma_am (Nat.mod_mod _ _) rfl)
theorem sc_22 {post : Int32 → SX → Prop} {m h : Int32} {rnd : Int64} {pa th pr pl st sh de we fu : Nat → Int32} {K val : Nat → Nat} {s p : Nat} (hs : s ≤ 24) (hp251 : p < 251) (hsh : ∀ i, i < s → K i = 0 → sh i = nI (val i % 251))
    (hp : ∀ sh', (∀ i, i < s → K i = 0 → sh' i = nI (p * val i % 251)) → post 0 (m, h, nI s, rnd, pa, th, pr, pl, st, sh', de, we, fu)) :
    ∀ d i sh1, i + d = s → (∀ j, j < i → K j = 0 → sh1 j = nI (p * val j % 251)) → (∀ j, i ≤ j → sh1 j = sh j) → wX_scale_22 post (nI p) m h (nI s) rnd (d + 1) (nI i) pa th pr pl st sh1 de we fu := by
  intro d
  induction d with
  | zero =>
    intro i sh1 hi h1 h2
    have : i = s := by omega
    subst this
    exact br_t (nI_le (by omega) (by omega)) (hp sh1 h1)
  | succ d ih =>
    intro i sh1 hi h1 h2
    have iv : vp_in (nI i) 24 := vp_in_nI (by omega) (by decide)
    have ec := nI_clamp (show i < 2 ^ 31 by omega)
    refine br_f (nI_ge (by omega) (by omega)) (And.intro iv (And.intro ba_251 (And.intro iv ?_)))
    rw [ec]
    refine nm_e (nm_r (nI_1 i) ?_)
    refine ih (i + 1) _ (by omega) (fun j hj hk0 => ?_) (fun j hj => ?_)
    · by_cases e : j = i
      · have hv : val i % 251 < 251 := Nat.mod_lt _ (by decide)
        have hm : val i % 251 * p < 251 * 251 := Nat.mul_lt_mul'' hv hp251
        rw [e] at hk0 ⊢
        rw [pk_us, h2 i (by omega), hsh i (by omega) hk0, ba_rem _ (pk_mul _ _) (by omega)]
        exact congrArg nI ((ma_mm (Nat.mod_mod _ _) rfl).trans (by rw [Nat.mul_comm]))
      · rw [pk_un e]; exact h1 j (by omega) hk0
    · rw [pk_un (by omega)]; exact h2 j (by omega)
theorem i_vc_scale {k : Nat} {u : SX} {v : SY} (I : i_Rel k u v) (hk : k + 3 ≤ 1537) (v1 : Int32) : wpX_scale (fun r u' => wpY_scale (fun r' v' => r' = r ∧ i_Rel (k + 3) u' v') v v1) u v1 := by
  obtain ⟨M, H, s, c, rnd, pa, th, pr, pl, st, sh, de, we, fu, ka, na, sK, sN, ys, K, N, rfl, rfl, R, RY, RS⟩ := I
  have keep := rl_mk (k := k + 3) (rnd := rnd) (de := de) (we := we) (fu := fu) (ys := ys) R RY RS
  have hM24 := R.1
  have hsM := RS.1
  have hc := RS.2.1
  unfold wpX_scale
  dsimp only
  refine sw_isSecret (fun z => ?_) (fun p hp e => ?_) (fun z => ?_)
  · exact br_t rfl (br_t z ⟨rfl, keep⟩)
  · subst e
    refine br_f (by decide) ?_
    by_cases hs : s = 0
    · have : nI s = 0 := by rw [hs]; rfl
      exact br_t this (br_f (nI_pos (by omega)) (br_t (vc_250 hp) (br_t this ⟨rfl, keep⟩)))
    · have hn : ¬ nI s = 0 := nI_ne0 (by omega) (by omega)
      obtain ⟨h1, h2, val, h3, h4⟩ := RS.2.2 (by omega)
      have hm : c * p < 251 * 251 := Nat.mul_lt_mul'' hc hp
      refine br_f hn (Exists.intro (s + 1) ?_)
      refine sc_22 (K := K) (val := val) (by omega) hp h4 (fun sh' hsh => ?_) s 0 sh (by omega) (fun j hj => absurd hj (Nat.not_lt_zero _)) (fun j _ => rfl)
      refine br_f (nI_pos (by omega)) (br_t (vc_250 hp) (br_f hn (And.intro ba_251 (nm_r (ba_rem _ (pk_mul c p) (by omega)) ⟨rfl, ?_⟩))))
      exact rl_mk R RY ⟨hsM, Nat.mod_lt _ (by decide), fun _ => ⟨h1, h2, fun i => p * val i, ma_Gd_c (ma_Gd_mul p h3) (by rw [Nat.mod_mod, Nat.mul_comm]), hsh⟩⟩
  · exact br_t rfl (br_f (vc_n0 z) (br_f (vc_n250 z) ⟨rfl, keep⟩))
theorem i_vc_open {k : Nat} {u : SX} {v : SY} (I : i_Rel k u v) (hk : k + 3 ≤ 1537) (v1 : Int32) : wpX_open (fun r u' => wpY_open (fun r' v' => r' = r ∧ i_Rel (k + 3) u' v') v v1) u v1 := by
  obtain ⟨M, H, s, c, rnd, pa, th, pr, pl, st, sh, de, we, fu, ka, na, sK, sN, ys, K, N, rfl, rfl, R, RY, RS⟩ := I
  have keep := rl_mk (k := k + 3) (rnd := rnd) (de := de) (we := we) (fu := fu) (ys := ys) R RY RS
  have hM24 := R.1
  have hsM := RS.1
  have hc := RS.2.1
  by_cases hs : s = 0
  · have : nI s = 0 := by rw [hs]; rfl
    exact br_t this (br_t this ⟨rfl, keep⟩)
  · have hn : ¬ nI s = 0 := nI_ne0 (by omega) (by omega)
    obtain ⟨h1, h2, val, h3, h4⟩ := RS.2.2 (by omega)
    have hF := rl_fm R hsM
    have h01 := ma_F01 hF.2.1 v1 (i := s - 1) (by omega)
    refine br_f hn (fx_ful hF (by omega) (fun fu' hfu => ?_))
    refine pk_eq (ma_F K N (ma_b v1) (s - 1)) 0 (fun e => ?_) (fun e => ?_) rfl rfl (by omega) (by omega)
    · refine br_f hn (fy_ful (by omega) hF.2.1 h1 (by omega) (fun i hi => (h2 i hi).1) (fun i hi => (h2 i hi).2) (fun ys' => ?_))
      exact br_t (by rw [e]; rfl) ⟨rfl, rl_mk R RY RS⟩
    · refine op_put hF h1 (by omega) h3 hc h4 hfu (by omega) (fun we' => ?_)
      refine br_f hn (fy_ful (by omega) hF.2.1 h1 (by omega) (fun i hi => (h2 i hi).1) (fun i hi => (h2 i hi).2) (fun ys' => ?_))
      exact br_f (nI_ne0 (by omega) (by omega)) ⟨rfl, rl_mk R RY RS⟩
