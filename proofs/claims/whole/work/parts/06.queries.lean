theorem i_vc0 (k0 : Int32) (k1 : Int32) : wpX_init (fun u => wpY_init (fun v => i_Rel 2 u v) k0 k1) k0 k1 := by
  obtain ⟨c, hc, X1, Y1⟩ := ls_init1 k0
  obtain ⟨r, hr, X2, Y2⟩ := ls_init2 k1
  unfold wpX_init
  refine X1 _ ?_
  refine X2 _ ?_
  refine Y1 _ _ ?_
  refine Y2 _ _ ?_
  exact ⟨c, r, 0, _, _, _, _, _, _, _, _, _, _, rfl, rfl, hc, hr, by omega, fun _ => Or.inl rfl, fun j hj => absurd hj (by omega)⟩
theorem i_vc_cap {k : Nat} {u : SX} {v : SY} (I : i_Rel k u v) (hk : k + 5 ≤ 2562) : wpX_cap (fun r => wpY_cap (fun r' => r' = r ∧ i_Rel (k + 5) u v) v) u := by
  have R := i_up I
  obtain ⟨c, r, n, ka, aa, va, kb, ab, vb, so, ok, oa, ov, rfl, rfl, hc, hr, hn, hB, hE⟩ := I
  exact ⟨rfl, R⟩
theorem i_vc_size {k : Nat} {u : SX} {v : SY} (I : i_Rel k u v) (hk : k + 5 ≤ 2562) : wpX_size (fun r => wpY_size (fun r' => r' = r ∧ i_Rel (k + 5) u v) v) u := by
  have R := i_up I
  obtain ⟨c, r, n, ka, aa, va, kb, ab, vb, so, ok, oa, ov, rfl, rfl, hc, hr, hn, hB, hE⟩ := I
  exact ⟨rfl, R⟩
theorem i_vc_kindAt {k : Nat} {u : SX} {v : SY} (I : i_Rel k u v) (hk : k + 5 ≤ 2562) (v1 : Int32) : wpX_kindAt (fun r => wpY_kindAt (fun r' => r' = r ∧ i_Rel (k + 5) u v) v v1) u v1 := by
  have R := i_up I
  obtain ⟨c, r, n, ka, aa, va, kb, ab, vb, so, ok, oa, ov, rfl, rfl, hc, hr, hn, hB, hE⟩ := I
  unfold wpX_kindAt wpY_kindAt
  dsimp only
  rcases pk_ix v1 (n := n) (by omega) with h | h | ⟨j, hj, rfl⟩
  · exact br_t h (br_t rfl (br_t h ⟨rfl, R⟩))
  · have h0 : ¬ v1 < 0 := Int32.not_lt.mpr (Int32.le_trans (nI_pos' (by omega)) h)
    exact br_f h0 (br_t h (br_t rfl (br_f h0 (br_t h ⟨rfl, R⟩))))
  · have h0 : ¬ nI j < 0 := nI_pos (by omega)
    have h1 : ¬ nI n ≤ nI j := nI_ge hj (by omega)
    have h40 : j < 40 := by omega
    have e : kb (nI j).toNatClampNeg = ka (nI j).toNatClampNeg := by rw [ls_cl h40]; exact (hE j hj).1.symm
    exact br_f h0 (br_f h1 (br_f ls_10 ⟨ls_in h40, br_f h0 (br_f h1 (br_t (ls_l40 h40) ⟨ls_in h40, e, R⟩))⟩))
theorem i_vc_amountAt {k : Nat} {u : SX} {v : SY} (I : i_Rel k u v) (hk : k + 5 ≤ 2562) (v1 : Int32) : wpX_amountAt (fun r => wpY_amountAt (fun r' => r' = r ∧ i_Rel (k + 5) u v) v v1) u v1 := by
  have R := i_up I
  obtain ⟨c, r, n, ka, aa, va, kb, ab, vb, so, ok, oa, ov, rfl, rfl, hc, hr, hn, hB, hE⟩ := I
  unfold wpX_amountAt wpY_amountAt
  dsimp only
  rcases pk_ix v1 (n := n) (by omega) with h | h | ⟨j, hj, rfl⟩
  · exact br_t h (br_t rfl (br_t h ⟨rfl, R⟩))
  · have h0 : ¬ v1 < 0 := Int32.not_lt.mpr (Int32.le_trans (nI_pos' (by omega)) h)
    exact br_f h0 (br_t h (br_t rfl (br_f h0 (br_t h ⟨rfl, R⟩))))
  · have h0 : ¬ nI j < 0 := nI_pos (by omega)
    have h1 : ¬ nI n ≤ nI j := nI_ge hj (by omega)
    have h40 : j < 40 := by omega
    have e : ab (nI j).toNatClampNeg = aa (nI j).toNatClampNeg := by rw [ls_cl h40]; exact (hE j hj).2.1.symm
    exact br_f h0 (br_f h1 (br_f ls_10 ⟨ls_in h40, br_f h0 (br_f h1 (br_t (ls_l40 h40) ⟨ls_in h40, e, R⟩))⟩))
theorem i_vc_voidAt {k : Nat} {u : SX} {v : SY} (I : i_Rel k u v) (hk : k + 5 ≤ 2562) (v1 : Int32) : wpX_voidAt (fun r => wpY_voidAt (fun r' => r' = r ∧ i_Rel (k + 5) u v) v v1) u v1 := by
  have R := i_up I
  obtain ⟨c, r, n, ka, aa, va, kb, ab, vb, so, ok, oa, ov, rfl, rfl, hc, hr, hn, hB, hE⟩ := I
  unfold wpX_voidAt wpY_voidAt
  dsimp only
  rcases pk_ix v1 (n := n) (by omega) with h | h | ⟨j, hj, rfl⟩
  · exact br_t h (br_t rfl (br_t h ⟨rfl, R⟩))
  · have h0 : ¬ v1 < 0 := Int32.not_lt.mpr (Int32.le_trans (nI_pos' (by omega)) h)
    exact br_f h0 (br_t h (br_t rfl (br_f h0 (br_t h ⟨rfl, R⟩))))
  · have h0 : ¬ nI j < 0 := nI_pos (by omega)
    have h1 : ¬ nI n ≤ nI j := nI_ge hj (by omega)
    have h40 : j < 40 := by omega
    have e : va (nI j).toNatClampNeg = vb (nI j).toNatClampNeg := by rw [ls_cl h40]; exact (hE j hj).2.2
    rcases hB (nI j).toNatClampNeg with z | z
    · exact br_f h0 (br_f h1 (br_f ls_10 ⟨ls_in h40, br_t z (br_f h0 (br_f h1 (br_t (ls_l40 h40) ⟨ls_in h40, e.symm.trans z, R⟩)))⟩))
    · exact br_f h0 (br_f h1 (br_f ls_10 ⟨ls_in h40, br_f (by rw [z]; exact ls_10) (br_f h0 (br_f h1 (br_t (ls_l40 h40) ⟨ls_in h40, e.symm.trans z, R⟩)))⟩))
theorem i_vc_run {k : Nat} {u : SX} {v : SY} (I : i_Rel k u v) (hk : k + 5 ≤ 2562) (v1 : Int32) (v2 : Int32) (v3 : Int32) : wpX_run (fun r => wpY_run (fun r' => r' = r ∧ i_Rel (k + 5) u v) v v1 v2 v3) u v1 v2 v3 := by
  have R := i_up I
  obtain ⟨c, r, n, ka, aa, va, kb, ab, vb, so, ok, oa, ov, rfl, rfl, hc, hr, hn, hB, hE⟩ := I
  unfold wpX_run wpY_run
  dsimp only
  rcases ls_blk n (by omega) v1 v2 with ⟨f, t, h1, h2, rfl, rfl⟩ | ⟨bX, bY⟩
  · have hn4 : n ≤ 40 := by omega
    refine ls_gX h1 h2 hn4 (br_f ls_10 ?_)
    by_cases h0 : v3 < 0
    · exact br_t h0 (br_t rfl (ls_gY h1 h2 hn4 (br_t rfl (br_t h0 ⟨rfl, R⟩))))
    · by_cases h3 : nI c < v3
      · exact br_f h0 (br_t h3 (br_t rfl (ls_gY h1 h2 hn4 (br_t rfl (br_f h0 (br_f (Int32.not_le.mpr h3) ⟨rfl, R⟩))))))
      · obtain ⟨y, hX, hY⟩ := ls_closing (nI c) (nI r) (nI n) ka aa va kb ab vb so ok oa ov f t h1 (by omega) hB (ls_Em h2 hE) v3
        exact br_f h0 (br_f h3 (br_f ls_10 (hX _ (ls_gY h1 h2 hn4 (br_t rfl (br_f h0 (br_t (Int32.not_lt.mp h3) (hY _ ⟨rfl, R⟩))))))))
  · exact bX _ _ _ _ _ _ (br_t rfl (bY _ _ _ _ _ _ _ _ _ _ (br_f ls_10 ⟨rfl, R⟩)))
theorem i_vc_repeat {k : Nat} {u : SX} {v : SY} (I : i_Rel k u v) (hk : k + 5 ≤ 2562) (v1 : Int32) (v2 : Int32) (v3 : Int32) (v4 : Int32) : wpX_repeat (fun r => wpY_repeat (fun r' => r' = r ∧ i_Rel (k + 5) u v) v v1 v2 v3 v4) u v1 v2 v3 v4 := by
  have R := i_up I
  obtain ⟨c, r, n, ka, aa, va, kb, ab, vb, so, ok, oa, ov, rfl, rfl, hc, hr, hn, hB, hE⟩ := I
  unfold wpX_repeat wpY_repeat
  dsimp only
  rcases ls_blk n (by omega) v1 v2 with ⟨f, t, h1, h2, rfl, rfl⟩ | ⟨bX, bY⟩
  · have hn4 : n ≤ 40 := by omega
    refine ls_gX h1 h2 hn4 (br_f ls_10 ?_)
    by_cases h0 : v3 < 0
    · exact br_t h0 (br_t rfl (ls_gY h1 h2 hn4 (br_t rfl (br_t h0 ⟨rfl, R⟩))))
    · by_cases h3 : nI c < v3
      · exact br_f h0 (br_t h3 (br_t rfl (ls_gY h1 h2 hn4 (br_t rfl (br_f h0 (br_f (Int32.not_le.mpr h3) ⟨rfl, R⟩))))))
      · have h3' : v3 ≤ nI c := Int32.not_lt.mp h3
        refine br_f h0 (br_f h3 (br_f ls_10 ?_))
        by_cases h4 : v4 < 0
        · exact br_t h4 (ls_gY h1 h2 hn4 (br_t rfl (br_f h0 (br_t h3' (br_t h4 ⟨rfl, R⟩)))))
        · by_cases h5 : v4 ≤ 200
          · obtain ⟨m, hm, rfl⟩ := nI_of2 (M := 200) (n := 200) (by decide) h4 h5
            obtain ⟨y, hX, hY⟩ := ls_rep (nI c) (nI r) (nI n) ka aa va kb ab vb so ok oa ov f t h1 (by omega) hB (ls_Em h2 hE) m hm m 0 (by omega) v3
            refine br_f h4 (br_t h5 ?_)
            unfold wpX_closingAfter
            exact ⟨_, hX _ (ls_gY h1 h2 hn4 (br_t rfl (br_f h0 (br_t h3' (br_f h4 (br_t h5 ⟨_, hY _ ⟨rfl, R⟩⟩))))))⟩
          · exact br_f h4 (br_f h5 (ls_gY h1 h2 hn4 (br_t rfl (br_f h0 (br_t h3' (br_f h4 (br_f h5 ⟨rfl, R⟩)))))))
  · exact bX _ _ _ _ _ _ (br_t rfl (bY _ _ _ _ _ _ _ _ _ _ (br_f ls_10 ⟨rfl, R⟩)))
theorem i_vc_rest {k : Nat} {u : SX} {v : SY} (I : i_Rel k u v) (hk : k + 5 ≤ 2562) (v1 : Int32) (v2 : Int32) (v3 : Int32) : wpX_rest (fun r => wpY_rest (fun r' => r' = r ∧ i_Rel (k + 5) u v) v v1 v2 v3) u v1 v2 v3 := by
  have R := i_up I
  obtain ⟨c, r, n, ka, aa, va, kb, ab, vb, so, ok, oa, ov, rfl, rfl, hc, hr, hn, hB, hE⟩ := I
  unfold wpX_rest wpY_rest
  dsimp only
  rcases ls_blk n (by omega) v1 v2 with ⟨f, t, h1, h2, rfl, rfl⟩ | ⟨bX, bY⟩
  · have hn4 : n ≤ 40 := by omega
    refine ls_gX h1 h2 hn4 (br_f ls_10 ?_)
    by_cases h0 : v3 < 0
    · exact br_t h0 (br_t rfl (ls_gY h1 h2 hn4 (br_t rfl (br_t h0 ⟨rfl, R⟩))))
    · by_cases h3 : nI c < v3
      · exact br_f h0 (br_t h3 (br_t rfl (ls_gY h1 h2 hn4 (br_t rfl (br_f h0 (br_f (Int32.not_le.mpr h3) ⟨rfl, R⟩))))))
      · have h3' : v3 ≤ nI c := Int32.not_lt.mp h3
        obtain ⟨y, hX, hY⟩ := ls_rst (nI c) (nI r) (nI n) ka aa va kb ab vb so ok oa ov f t h1 (by omega) hB (ls_Em h2 hE) (c + 1) (by omega) (nI_1 c) (c + 1) 0 (by omega) v3
        refine br_f h0 (br_f h3 (br_f ls_10 ?_))
        unfold wpX_closingAfter
        exact ⟨_, hX _ (ls_gY h1 h2 hn4 (br_t rfl (br_f h0 (br_t h3' ⟨_, hY _ ⟨rfl, R⟩⟩))))⟩
  · exact bX _ _ _ _ _ _ (br_t rfl (bY _ _ _ _ _ _ _ _ _ _ (br_f ls_10 ⟨rfl, R⟩)))
theorem i_vc_leastOpening {k : Nat} {u : SX} {v : SY} (I : i_Rel k u v) (hk : k + 5 ≤ 2562) (v1 : Int32) (v2 : Int32) (v3 : Int32) : wpX_leastOpening (fun r => wpY_leastOpening (fun r' => r' = r ∧ i_Rel (k + 5) u v) v v1 v2 v3) u v1 v2 v3 := by
  have R := i_up I
  obtain ⟨c, r, n, ka, aa, va, kb, ab, vb, so, ok, oa, ov, rfl, rfl, hc, hr, hn, hB, hE⟩ := I
  unfold wpX_leastOpening wpY_leastOpening
  dsimp only
  rcases ls_blk n (by omega) v1 v2 with ⟨f, t, h1, h2, rfl, rfl⟩ | ⟨bX, bY⟩
  · have hn4 : n ≤ 40 := by omega
    refine ls_gX h1 h2 hn4 (br_f ls_10 ?_)
    by_cases h0 : v3 < 0
    · exact br_t h0 (br_t rfl (ls_gY h1 h2 hn4 (br_t rfl (br_t h0 ⟨rfl, R⟩))))
    · by_cases h3 : nI c < v3
      · exact br_f h0 (br_t h3 (br_t rfl (ls_gY h1 h2 hn4 (br_t rfl (br_f h0 (br_f (Int32.not_le.mpr h3) ⟨rfl, R⟩))))))
      · have h3' : v3 ≤ nI c := Int32.not_lt.mp h3
        obtain ⟨y, hX, hY⟩ := ls_lst (nI c) (nI r) (nI n) ka aa va kb ab vb so ok oa ov f t h1 (by omega) hB (ls_Em h2 hE) c hc rfl v3 (c + 1) 0 (by omega)
        exact br_f h0 (br_f h3 (br_f ls_10 ⟨_, hX _ (ls_gY h1 h2 hn4 (br_t rfl (br_f h0 (br_t h3' ⟨_, hY _ ⟨rfl, R⟩⟩))))⟩))
  · exact bX _ _ _ _ _ _ (br_t rfl (bY _ _ _ _ _ _ _ _ _ _ (br_f ls_10 ⟨rfl, R⟩)))
theorem i_vc_openings {k : Nat} {u : SX} {v : SY} (I : i_Rel k u v) (hk : k + 5 ≤ 2562) (v1 : Int32) (v2 : Int32) (v3 : Int32) : wpX_openings (fun r => wpY_openings (fun r' => r' = r ∧ i_Rel (k + 5) u v) v v1 v2 v3) u v1 v2 v3 := by
  have R := i_up I
  obtain ⟨c, r, n, ka, aa, va, kb, ab, vb, so, ok, oa, ov, rfl, rfl, hc, hr, hn, hB, hE⟩ := I
  unfold wpX_openings wpY_openings
  dsimp only
  rcases ls_blk n (by omega) v1 v2 with ⟨f, t, h1, h2, rfl, rfl⟩ | ⟨bX, bY⟩
  · have hn4 : n ≤ 40 := by omega
    refine ls_gX h1 h2 hn4 (br_f ls_10 ?_)
    by_cases h0 : v3 < 0
    · exact br_t h0 (br_t rfl (ls_gY h1 h2 hn4 (br_t rfl (br_t h0 ⟨rfl, R⟩))))
    · by_cases h3 : nI c < v3
      · exact br_f h0 (br_t h3 (br_t rfl (ls_gY h1 h2 hn4 (br_t rfl (br_f h0 (br_f (Int32.not_le.mpr h3) ⟨rfl, R⟩))))))
      · have h3' : v3 ≤ nI c := Int32.not_lt.mp h3
        obtain ⟨y, hX, hY⟩ := ls_opn (nI c) (nI r) (nI n) ka aa va kb ab vb so ok oa ov f t h1 (by omega) hB (ls_Em h2 hE) c hc rfl v3 (c + 1) 0 (by omega) 0
        exact br_f h0 (br_f h3 (br_f ls_10 ⟨_, hX _ (ls_gY h1 h2 hn4 (br_t rfl (br_f h0 (br_t h3' ⟨_, hY _ ⟨rfl, R⟩⟩))))⟩))
  · exact bX _ _ _ _ _ _ (br_t rfl (bY _ _ _ _ _ _ _ _ _ _ (br_f ls_10 ⟨rfl, R⟩)))
theorem i_vc_liveCount {k : Nat} {u : SX} {v : SY} (I : i_Rel k u v) (hk : k + 5 ≤ 2562) (v1 : Int32) (v2 : Int32) : wpX_liveCount (fun r => wpY_liveCount (fun r' => r' = r ∧ i_Rel (k + 5) u v) v v1 v2) u v1 v2 := by
  have R := i_up I
  obtain ⟨c, r, n, ka, aa, va, kb, ab, vb, so, ok, oa, ov, rfl, rfl, hc, hr, hn, hB, hE⟩ := I
  unfold wpX_liveCount wpY_liveCount
  dsimp only
  rcases ls_blk n (by omega) v1 v2 with ⟨f, t, h1, h2, rfl, rfl⟩ | ⟨bX, bY⟩
  · have hn4 : n ≤ 40 := by omega
    obtain ⟨y, hX, hY⟩ := ls_liv (nI c) (nI r) (nI n) ka aa va kb ab vb so ok oa ov t (by omega) (ls_Em h2 hE) (t - f) f (by omega) 0
    exact ls_gX h1 h2 hn4 (br_f ls_10 ⟨_, hX _ (ls_gY h1 h2 hn4 (br_t rfl ⟨_, hY _ ⟨rfl, R⟩⟩))⟩)
  · exact bX _ _ _ _ _ _ (br_t rfl (bY _ _ _ _ _ _ _ _ _ _ (br_f ls_10 ⟨rfl, R⟩)))
theorem i_vc_net {k : Nat} {u : SX} {v : SY} (I : i_Rel k u v) (hk : k + 5 ≤ 2562) (v1 : Int32) (v2 : Int32) : wpX_net (fun r => wpY_net (fun r' => r' = r ∧ i_Rel (k + 5) u v) v v1 v2) u v1 v2 := by
  have R := i_up I
  obtain ⟨c, r, n, ka, aa, va, kb, ab, vb, so, ok, oa, ov, rfl, rfl, hc, hr, hn, hB, hE⟩ := I
  unfold wpX_net wpY_net
  dsimp only
  rcases ls_blk n (by omega) v1 v2 with ⟨f, t, h1, h2, rfl, rfl⟩ | ⟨bX, bY⟩
  · have hn4 : n ≤ 40 := by omega
    obtain ⟨y, hX, hY⟩ := ls_net (nI c) (nI r) (nI n) ka aa va kb ab vb so ok oa ov t (by omega) (ls_Em h2 hE) (t - f) f (by omega) 0
    exact ls_gX h1 h2 hn4 (br_f ls_10 ⟨_, hX _ (ls_gY h1 h2 hn4 (br_t rfl ⟨_, hY _ ⟨rfl, R⟩⟩))⟩)
  · exact bX _ _ _ _ _ _ (br_t rfl (bY _ _ _ _ _ _ _ _ _ _ (br_f ls_10 ⟨rfl, R⟩)))
theorem i_vc_setVoid {k : Nat} {u : SX} {v : SY} (I : i_Rel k u v) (hk : k + 5 ≤ 2562) (v1 : Int32) (v2 : Int32) (v3 : Int32) : wpX_setVoid (fun r u' => wpY_setVoid (fun r' v' => r' = r ∧ i_Rel (k + 5) u' v') v v1 v2 v3) u v1 v2 v3 := by
  have R := i_up I
  obtain ⟨c, r, n, ka, aa, va, kb, ab, vb, so, ok, oa, ov, rfl, rfl, hc, hr, hn, hB, hE⟩ := I
  unfold wpX_setVoid wpY_setVoid
  dsimp only
  rcases ls_blk n (by omega) v1 v2 with ⟨f, t, h1, h2, rfl, rfl⟩ | ⟨bX, bY⟩
  · have hn4 : n ≤ 40 := by omega
    by_cases h3 : v3 = 0
    · obtain ⟨y, va', vb', hB', hE', hX, hY⟩ := ls_sv (nI c) (nI r) (nI n) ka aa kb ab so ok oa ov t n h2 hn4 0 (Or.inl rfl) (t - f) f (by omega) 0 va vb hB (fun j hj => (hE j hj).2.2)
      exact ls_gX h1 h2 hn4 (br_f ls_10 (br_t h3 ⟨_, hX _ (ls_gY h1 h2 hn4 (br_t rfl (br_t h3 ⟨_, hY _ ⟨rfl, c, r, n, ka, aa, va', kb, ab, vb', so, ok, oa, ov, rfl, rfl, hc, hr, hn, hB', fun j hj => ⟨(hE j hj).1, (hE j hj).2.1, hE' j hj⟩⟩⟩)))⟩))
    · obtain ⟨y, va', vb', hB', hE', hX, hY⟩ := ls_sv (nI c) (nI r) (nI n) ka aa kb ab so ok oa ov t n h2 hn4 1 (Or.inr rfl) (t - f) f (by omega) 0 va vb hB (fun j hj => (hE j hj).2.2)
      exact ls_gX h1 h2 hn4 (br_f ls_10 (br_f h3 ⟨_, hX _ (ls_gY h1 h2 hn4 (br_t rfl (br_f h3 ⟨_, hY _ ⟨rfl, c, r, n, ka, aa, va', kb, ab, vb', so, ok, oa, ov, rfl, rfl, hc, hr, hn, hB', fun j hj => ⟨(hE j hj).1, (hE j hj).2.1, hE' j hj⟩⟩⟩)))⟩))
  · exact bX _ _ _ _ _ _ (br_t rfl (bY _ _ _ _ _ _ _ _ _ _ (br_f ls_10 ⟨rfl, R⟩)))
