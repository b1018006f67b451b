theorem en_ok {K N : Nat → Nat} {M H s c : Nat} {pa th pr pl st sh sK sN : Nat → Int32} (R : rl_Sh K N M H pa th pr pl st) (RS : rl_Sd K N M s c sh sK sN) (h : ¬ s = 0) : sv_ok K N s sK sN := by
  have hF := rl_fm R RS.1
  obtain ⟨h1, h2, _⟩ := RS.2.2 (by omega)
  exact ⟨hF.1, hF.2.1, h1, by omega, h2⟩
theorem i_vc_qualified {k : Nat} {u : SX} {v : SY} (I : i_Rel k u v) (hk : k + 3 ≤ 1537) : wpX_qualified (fun r u' => wpY_qualified (fun r' v' => r' = r ∧ i_Rel (k + 3) u' v') v) u := by
  obtain ⟨M, H, s, c, rnd, pa, th, pr, pl, st, sh, de, we, fu, ka, na, sK, sN, ys, K, N, rfl, rfl, R, RY, RS⟩ := I
  by_cases hs : s = 0
  · have : nI s = 0 := by rw [hs]; rfl
    exact br_t this (br_t this ⟨rfl, rl_mk R RY RS⟩)
  · have Y := en_ok R RS hs
    have hn : ¬ nI s = 0 := nI_ne0 (by omega) (by have := Y.1; omega)
    refine br_f hn (Exists.intro 257 (sx_q (rl_fm R RS.1) (by omega) 256 0 0 fu (by omega) (fun fu' => ?_)))
    exact br_f hn (Exists.intro 257 (sv_q Y 256 0 0 ys (by omega) (fun ys' => ⟨rfl, rl_mk R RY RS⟩)))
theorem i_vc_minimal {k : Nat} {u : SX} {v : SY} (I : i_Rel k u v) (hk : k + 3 ≤ 1537) (v1 : Int32) : wpX_minimal (fun r u' => wpY_minimal (fun r' v' => r' = r ∧ i_Rel (k + 3) u' v') v v1) u v1 := by
  obtain ⟨M, H, s, c, rnd, pa, th, pr, pl, st, sh, de, we, fu, ka, na, sK, sN, ys, K, N, rfl, rfl, R, RY, RS⟩ := I
  by_cases hs : s = 0
  · have : nI s = 0 := by rw [hs]; rfl
    exact br_t this (br_t this ⟨rfl, rl_mk R RY RS⟩)
  · have Y := en_ok R RS hs
    have hn : ¬ nI s = 0 := nI_ne0 (by omega) (by have := Y.1; omega)
    have hF := rl_fm R RS.1
    have h01 := ma_F01 Y.2.1 v1 (i := s - 1) (by omega)
    refine br_f hn (fx_ful hF (by omega) (fun fu' _ => ?_))
    refine pk_eq (ma_F K N (ma_b v1) (s - 1)) 0 (fun e => ?_) (fun e => ?_) rfl rfl (by omega) (by omega)
    · exact br_f hn (sv_ful Y (fun ys' => br_t (by rw [e]; rfl) ⟨rfl, rl_mk R RY RS⟩))
    · refine Exists.intro 9 (sx_m hF (by omega) 8 0 fu' (by omega) (fun fu2 => ?_))
      refine br_f hn (sv_ful Y (fun ys' => br_f (nI_ne0 (by omega) (by omega)) ?_))
      exact Exists.intro 9 (sv_m Y 8 0 ys' (by omega) (fun ys2 => ⟨rfl, rl_mk R RY RS⟩))
theorem i_vc_fewest {k : Nat} {u : SX} {v : SY} (I : i_Rel k u v) (hk : k + 3 ≤ 1537) : wpX_fewest (fun r u' => wpY_fewest (fun r' v' => r' = r ∧ i_Rel (k + 3) u' v') v) u := by
  obtain ⟨M, H, s, c, rnd, pa, th, pr, pl, st, sh, de, we, fu, ka, na, sK, sN, ys, K, N, rfl, rfl, R, RY, RS⟩ := I
  by_cases hs : s = 0
  · have : nI s = 0 := by rw [hs]; rfl
    exact br_t this (br_t this ⟨rfl, rl_mk R RY RS⟩)
  · have Y := en_ok R RS hs
    have hn : ¬ nI s = 0 := nI_ne0 (by omega) (by have := Y.1; omega)
    refine br_f hn (Exists.intro 257 (sx_f (rl_fm R RS.1) (by omega) 256 0 8 fu (by omega) (fun fu' => ?_)))
    exact br_f hn (Exists.intro 257 (sv_f Y 256 0 8 ys (by omega) (fun ys' => ⟨rfl, rl_mk R RY RS⟩)))
theorem i_vc_needed {k : Nat} {u : SX} {v : SY} (I : i_Rel k u v) (hk : k + 3 ≤ 1537) : wpX_needed (fun r u' => wpY_needed (fun r' v' => r' = r ∧ i_Rel (k + 3) u' v') v) u := by
  obtain ⟨M, H, s, c, rnd, pa, th, pr, pl, st, sh, de, we, fu, ka, na, sK, sN, ys, K, N, rfl, rfl, R, RY, RS⟩ := I
  by_cases hs : s = 0
  · have : nI s = 0 := by rw [hs]; rfl
    exact br_t this (br_t this ⟨rfl, rl_mk R RY RS⟩)
  · have Y := en_ok R RS hs
    have hn : ¬ nI s = 0 := nI_ne0 (by omega) (by have := Y.1; omega)
    refine br_f hn (Exists.intro 257 (sx_n (rl_fm R RS.1) (by omega) 256 0 255 fu (by omega) (fun fu' => ?_)))
    exact br_f hn (Exists.intro 257 (sv_n Y 256 0 255 ys (by omega) (fun ys' => ⟨rfl, rl_mk R RY RS⟩)))
