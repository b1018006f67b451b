/-! qualified, minimal, fewest, needed: both sides against one pure loop; g j says whether the j-th set fulfils -/
def st_q (g : Nat → Nat) : Nat → Nat → Int32 → Int32
  | 0, _, v => v
  | d + 1, j, v => st_q g d (j + 1) (if g j = 0 then v else v + 1)
def st_m (x : Int32) (g : Nat → Nat) : Nat → Nat → Int32
  | 0, _ => 1
  | d + 1, j => if ((x >>> (nI j &&& 31)) &&& 1) = 1 then (if g j = 0 then st_m x g d (j + 1) else 0) else st_m x g d (j + 1)
def st_f (g : Nat → Nat) : Nat → Nat → Int32 → Int32
  | 0, _, v => v
  | d + 1, j, v => st_f g d (j + 1) (if g j = 0 then v else if v ≤ sz_p (nI j) 8 0 0 then v else sz_p (nI j) 8 0 0)
def st_n (g : Nat → Nat) : Nat → Nat → Int32 → Int32
  | 0, _, v => sz_p v 8 0 0
  | d + 1, j, v => st_n g d (j + 1) (if g j = 0 then v else v &&& nI j)
def st_g (K N : Nat → Nat) (s : Nat) (x : Int32) : Nat := ma_F K N (ma_b x) (s - 1)
section SX1
variable {m h : Int32} {rnd : Int64} {pa th pr pl st sh de we fu : Nat → Int32} {K N : Nat → Nat} {s : Nat}
theorem sx_q (hF : fm_ok K N s pa th pr pl) (h0 : 0 < s) {post : Int32 → SX → Prop} : ∀ d j v fu1, j + d = 256 → (∀ fu', post (st_q (fun i => st_g K N s (nI i)) d j v) (m, h, nI s, rnd, pa, th, pr, pl, st, sh, de, we, fu')) → wX_qualified_14 post (d + 1) v (nI j) m h (nI s) rnd pa th pr pl st sh de we fu1 := by
  intro d
  induction d with
  | zero =>
    intro j v fu1 hj hp
    exact br_t (nI_le (a := 256) (by omega) (by omega)) (hp fu1)
  | succ d ih =>
    intro j v fu1 hj hp
    have h01 := ma_F01 hF.2.1 (nI j) (i := s - 1) (by omega)
    refine br_f (nI_ge (b := 256) (by omega) (by omega)) (fx_ful hF h0 (fun fu' _ => ?_))
    refine pk_eq (ma_F K N (ma_b (nI j)) (s - 1)) 0 (fun e => ?_) (fun e => ?_) rfl rfl (by omega) (by omega)
    · refine nm_r (nI_1 j) (ih (j + 1) v fu' (by omega) (fun fu2 => ?_))
      have := hp fu2
      rw [st_q, if_pos (show st_g K N s (nI j) = 0 from e)] at this
      exact this
    · refine nm_e (nm_r (nI_1 j) (ih (j + 1) (v + 1) fu' (by omega) (fun fu2 => ?_)))
      have := hp fu2
      rw [st_q, if_neg (show ¬ st_g K N s (nI j) = 0 from e)] at this
      exact this
theorem sx_m (hF : fm_ok K N s pa th pr pl) (h0 : 0 < s) {x : Int32} {post : Int32 → SX → Prop} : ∀ d j fu1, j + d = 8 → (∀ fu', post (st_m x (fun i => st_g K N s (x &&& (((1 : Int32) <<< (nI i &&& 31)) ^^^ (-1)))) d j) (m, h, nI s, rnd, pa, th, pr, pl, st, sh, de, we, fu')) → wX_minimal_19 post x (d + 1) (nI j) m h (nI s) rnd pa th pr pl st sh de we fu1 := by
  intro d
  induction d with
  | zero =>
    intro j fu1 hj hp
    exact br_t (nI_le (a := 8) (by omega) (by omega)) (hp fu1)
  | succ d ih =>
    intro j fu1 hj hp
    have h01 := ma_F01 hF.2.1 (x &&& (((1 : Int32) <<< (nI j &&& 31)) ^^^ (-1))) (i := s - 1) (by omega)
    refine br_f (nI_ge (b := 8) (by omega) (by omega)) (sw_has (fun hb => ?_) (fun hb => ?_))
    · rw [st_m, if_pos hb] at hp
      refine br_f (by decide) (fx_ful hF h0 (fun fu' _ => ?_))
      refine pk_eq (ma_F K N (ma_b (x &&& (((1 : Int32) <<< (nI j &&& 31)) ^^^ (-1)))) (s - 1)) 0 (fun e => ?_) (fun e => ?_) rfl rfl (by omega) (by omega)
      · rw [if_pos (show st_g K N s (x &&& (((1 : Int32) <<< (nI j &&& 31)) ^^^ (-1))) = 0 from e)] at hp
        exact nm_r (nI_1 j) (ih (j + 1) fu' (by omega) hp)
      · rw [if_neg (show ¬ st_g K N s (x &&& (((1 : Int32) <<< (nI j &&& 31)) ^^^ (-1))) = 0 from e)] at hp
        exact hp fu'
    · rw [st_m, if_neg hb] at hp
      exact br_t rfl (nm_r (nI_1 j) (ih (j + 1) fu1 (by omega) hp))
theorem sx_f (hF : fm_ok K N s pa th pr pl) (h0 : 0 < s) {post : Int32 → SX → Prop} : ∀ d j v fu1, j + d = 256 → (∀ fu', post (st_f (fun i => st_g K N s (nI i)) d j v) (m, h, nI s, rnd, pa, th, pr, pl, st, sh, de, we, fu')) → wX_fewest_15 post (d + 1) v (nI j) m h (nI s) rnd pa th pr pl st sh de we fu1 := by
  intro d
  induction d with
  | zero =>
    intro j v fu1 hj hp
    exact br_t (nI_le (a := 256) (by omega) (by omega)) (hp fu1)
  | succ d ih =>
    intro j v fu1 hj hp
    have h01 := ma_F01 hF.2.1 (nI j) (i := s - 1) (by omega)
    rw [st_f] at hp
    refine br_f (nI_ge (b := 256) (by omega) (by omega)) (sw_size ?_)
    refine br_c (fun hle => ?_) (fun hle => ?_)
    · rw [if_pos hle] at hp
      refine nm_r (nI_1 j) (ih (j + 1) v fu1 (by omega) (fun fu2 => ?_))
      have := hp fu2
      by_cases e : st_g K N s (nI j) = 0
      · rw [if_pos e] at this; exact this
      · rw [if_neg e] at this; exact this
    · rw [if_neg hle] at hp
      refine fx_ful hF h0 (fun fu' _ => ?_)
      refine pk_eq (ma_F K N (ma_b (nI j)) (s - 1)) 0 (fun e => ?_) (fun e => ?_) rfl rfl (by omega) (by omega)
      · rw [if_pos (show st_g K N s (nI j) = 0 from e)] at hp
        exact nm_r (nI_1 j) (ih (j + 1) v fu' (by omega) hp)
      · rw [if_neg (show ¬ st_g K N s (nI j) = 0 from e)] at hp
        exact nm_r (nI_1 j) (ih (j + 1) _ fu' (by omega) hp)
theorem sx_n (hF : fm_ok K N s pa th pr pl) (h0 : 0 < s) {post : Int32 → SX → Prop} : ∀ d j v fu1, j + d = 256 → (∀ fu', post (st_n (fun i => st_g K N s (nI i)) d j v) (m, h, nI s, rnd, pa, th, pr, pl, st, sh, de, we, fu')) → wX_needed_16 post (d + 1) v (nI j) m h (nI s) rnd pa th pr pl st sh de we fu1 := by
  intro d
  induction d with
  | zero =>
    intro j v fu1 hj hp
    exact br_t (nI_le (a := 256) (by omega) (by omega)) (sw_size (hp fu1))
  | succ d ih =>
    intro j v fu1 hj hp
    have h01 := ma_F01 hF.2.1 (nI j) (i := s - 1) (by omega)
    rw [st_n] at hp
    refine br_f (nI_ge (b := 256) (by omega) (by omega)) (fx_ful hF h0 (fun fu' _ => ?_))
    refine pk_eq (ma_F K N (ma_b (nI j)) (s - 1)) 0 (fun e => ?_) (fun e => ?_) rfl rfl (by omega) (by omega)
    · rw [if_pos (show st_g K N s (nI j) = 0 from e)] at hp
      exact nm_r (nI_1 j) (ih (j + 1) v fu' (by omega) hp)
    · rw [if_neg (show ¬ st_g K N s (nI j) = 0 from e)] at hp
      exact nm_e (nm_r (nI_1 j) (ih (j + 1) _ fu' (by omega) hp))
end SX1
section SY1
variable {m h c0 : Int32} {ka na sK sN ys : Nat → Int32} {K N : Nat → Nat} {s : Nat}
theorem sv_size4 {S : Int32} {post : Int32 → Prop} {x : Int32} : ∀ d i v, i + d = 8 → post (sz_p x d i v) → wY_size_4 post x m h S c0 ka na sK sN ys (d + 1) v (nI i) := by
  intro d
  induction d with
  | zero =>
    intro i v hi hp
    exact br_t (nI_le (a := 8) (by omega) (by omega)) hp
  | succ d ih =>
    intro i v hi hp
    exact br_f (nI_ge (b := 8) (by omega) (by omega)) (nm_e (nm_r (nI_1 i) (ih (i + 1) _ (by omega) hp)))
theorem sv_size {S : Int32} {post : Int32 → Prop} {x : Int32} (hp : post (sz_p x 8 0 0)) : wpY_size post (m, h, S, c0, ka, na, sK, sN, ys) x := Exists.intro 9 (sv_size4 8 0 0 (by omega) hp)
def sv_ok (K N : Nat → Nat) (s : Nat) (sK sN : Nat → Int32) : Prop := s ≤ 24 ∧ ma_wf K N s ∧ ma_hh K N s = 1 ∧ 0 < s ∧ ∀ i, i < s → sK i = nI (K i) ∧ sN i = nI (N i)
theorem sv_ful {x : Int32} (Y : sv_ok K N s sK sN) {post : Int32 → SY → Prop} (hp : ∀ ys', post (nI (ma_F K N (ma_b x) (s - 1))) (m, h, nI s, c0, ka, na, sK, sN, ys')) : wpY_fulfils post (m, h, nI s, c0, ka, na, sK, sN, ys) x :=
  fy_ful Y.1 Y.2.1 Y.2.2.1 Y.2.2.2.1 (fun i hi => (Y.2.2.2.2 i hi).1) (fun i hi => (Y.2.2.2.2 i hi).2) hp
theorem sv_q (Y : sv_ok K N s sK sN) {post : Int32 → SY → Prop} : ∀ d j v ys1, j + d = 256 → (∀ ys', post (st_q (fun i => st_g K N s (nI i)) d j v) (m, h, nI s, c0, ka, na, sK, sN, ys')) → wY_qualified_14 post (d + 1) v (nI j) m h (nI s) c0 ka na sK sN ys1 := by
  intro d
  induction d with
  | zero =>
    intro j v ys1 hj hp
    exact br_t (nI_le (a := 256) (by omega) (by omega)) (hp ys1)
  | succ d ih =>
    intro j v ys1 hj hp
    have h00 := Y.2.2.2.1
    have h01 := ma_F01 Y.2.1 (nI j) (i := s - 1) (by omega)
    rw [st_q] at hp
    refine br_f (nI_ge (b := 256) (by omega) (by omega)) (sv_ful Y (fun ys' => ?_))
    refine pk_eq (ma_F K N (ma_b (nI j)) (s - 1)) 0 (fun e => ?_) (fun e => ?_) rfl rfl (by omega) (by omega)
    · rw [if_pos (show st_g K N s (nI j) = 0 from e)] at hp
      exact nm_r (nI_1 j) (ih (j + 1) v ys' (by omega) hp)
    · rw [if_neg (show ¬ st_g K N s (nI j) = 0 from e)] at hp
      exact nm_e (nm_r (nI_1 j) (ih (j + 1) (v + 1) ys' (by omega) hp))
theorem sv_m (Y : sv_ok K N s sK sN) {x : Int32} {post : Int32 → SY → Prop} : ∀ d j ys1, j + d = 8 → (∀ ys', post (st_m x (fun i => st_g K N s (x &&& (((1 : Int32) <<< (nI i &&& 31)) ^^^ (-1)))) d j) (m, h, nI s, c0, ka, na, sK, sN, ys')) → wY_minimal_19 post x (d + 1) (nI j) m h (nI s) c0 ka na sK sN ys1 := by
  intro d
  induction d with
  | zero =>
    intro j ys1 hj hp
    exact br_t (nI_le (a := 8) (by omega) (by omega)) (hp ys1)
  | succ d ih =>
    intro j ys1 hj hp
    have h00 := Y.2.2.2.1
    have h01 := ma_F01 Y.2.1 (x &&& (((1 : Int32) <<< (nI j &&& 31)) ^^^ (-1))) (i := s - 1) (by omega)
    refine br_f (nI_ge (b := 8) (by omega) (by omega)) (br_c (fun hb => ?_) (fun hb => ?_))
    · rw [st_m, if_pos hb] at hp
      refine sv_ful Y (fun ys' => ?_)
      refine pk_eq (ma_F K N (ma_b (x &&& (((1 : Int32) <<< (nI j &&& 31)) ^^^ (-1)))) (s - 1)) 0 (fun e => ?_) (fun e => ?_) rfl rfl (by omega) (by omega)
      · rw [if_pos (show st_g K N s (x &&& (((1 : Int32) <<< (nI j &&& 31)) ^^^ (-1))) = 0 from e)] at hp
        exact nm_r (nI_1 j) (ih (j + 1) ys' (by omega) hp)
      · rw [if_neg (show ¬ st_g K N s (x &&& (((1 : Int32) <<< (nI j &&& 31)) ^^^ (-1))) = 0 from e)] at hp
        exact hp ys'
    · rw [st_m, if_neg hb] at hp
      exact nm_r (nI_1 j) (ih (j + 1) ys1 (by omega) hp)
theorem sv_f (Y : sv_ok K N s sK sN) {post : Int32 → SY → Prop} : ∀ d j v ys1, j + d = 256 → (∀ ys', post (st_f (fun i => st_g K N s (nI i)) d j v) (m, h, nI s, c0, ka, na, sK, sN, ys')) → wY_fewest_15 post (d + 1) v (nI j) m h (nI s) c0 ka na sK sN ys1 := by
  intro d
  induction d with
  | zero =>
    intro j v ys1 hj hp
    exact br_t (nI_le (a := 256) (by omega) (by omega)) (hp ys1)
  | succ d ih =>
    intro j v ys1 hj hp
    have h00 := Y.2.2.2.1
    have h01 := ma_F01 Y.2.1 (nI j) (i := s - 1) (by omega)
    rw [st_f] at hp
    refine br_f (nI_ge (b := 256) (by omega) (by omega)) (sv_ful Y (fun ys' => ?_))
    refine pk_eq (ma_F K N (ma_b (nI j)) (s - 1)) 0 (fun e => ?_) (fun e => ?_) rfl rfl (by omega) (by omega)
    · rw [if_pos (show st_g K N s (nI j) = 0 from e)] at hp
      exact nm_r (nI_1 j) (ih (j + 1) v ys' (by omega) hp)
    · rw [if_neg (show ¬ st_g K N s (nI j) = 0 from e)] at hp
      refine sv_size (br_c (fun hle => ?_) (fun hle => ?_))
      · rw [if_pos hle] at hp
        exact nm_r (nI_1 j) (ih (j + 1) v ys' (by omega) hp)
      · rw [if_neg hle] at hp
        exact sv_size (nm_r (nI_1 j) (ih (j + 1) _ ys' (by omega) hp))
theorem sv_n (Y : sv_ok K N s sK sN) {post : Int32 → SY → Prop} : ∀ d j v ys1, j + d = 256 → (∀ ys', post (st_n (fun i => st_g K N s (nI i)) d j v) (m, h, nI s, c0, ka, na, sK, sN, ys')) → wY_needed_16 post (d + 1) v (nI j) m h (nI s) c0 ka na sK sN ys1 := by
  intro d
  induction d with
  | zero =>
    intro j v ys1 hj hp
    exact br_t (nI_le (a := 256) (by omega) (by omega)) (sv_size (hp ys1))
  | succ d ih =>
    intro j v ys1 hj hp
    have h00 := Y.2.2.2.1
    have h01 := ma_F01 Y.2.1 (nI j) (i := s - 1) (by omega)
    rw [st_n] at hp
    refine br_f (nI_ge (b := 256) (by omega) (by omega)) (sv_ful Y (fun ys' => ?_))
    refine pk_eq (ma_F K N (ma_b (nI j)) (s - 1)) 0 (fun e => ?_) (fun e => ?_) rfl rfl (by omega) (by omega)
    · rw [if_pos (show st_g K N s (nI j) = 0 from e)] at hp
      exact nm_r (nI_1 j) (ih (j + 1) v ys' (by omega) hp)
    · rw [if_neg (show ¬ st_g K N s (nI j) = 0 from e)] at hp
      exact nm_e (nm_r (nI_1 j) (ih (j + 1) _ ys' (by omega) hp))
end SY1
