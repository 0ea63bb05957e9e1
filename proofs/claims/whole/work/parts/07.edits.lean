theorem i_vc_insert {k : Nat} {u : SX} {v : SY} (I : i_Rel k u v) (hk : k + 5 ≤ 2562) (v1 : Int32) (v2 : Int32) (v3 : Int32) : wpX_insert (fun r u' => wpY_insert (fun r' v' => r' = r ∧ i_Rel (k + 5) u' v') v v1 v2 v3) u v1 v2 v3 := by
  have R := i_up I
  obtain ⟨c, r, n, ka, aa, va, kb, ab, vb, so, ok, oa, ov, rfl, rfl, hc, hr, hn, hB, hE⟩ := I
  unfold wpX_insert wpY_insert
  dsimp only
  by_cases a1 : nI n = nI r
  · exact br_t a1 (br_t a1 ⟨rfl, R⟩)
  by_cases a2 : v1 < 0
  · exact br_f a1 (br_t a2 (br_f a1 (br_t a2 ⟨rfl, R⟩)))
  by_cases a3 : v1 ≤ nI n
  rotate_left
  · exact br_f a1 (br_f a2 (br_f a3 (br_f a1 (br_f a2 (br_f a3 ⟨rfl, R⟩)))))
  by_cases a4 : v2 < 0
  · exact br_f a1 (br_f a2 (br_t a3 (br_t a4 (br_f a1 (br_f a2 (br_t a3 (br_t a4 ⟨rfl, R⟩)))))))
  by_cases a5 : v2 ≤ 3
  rotate_left
  · exact br_f a1 (br_f a2 (br_t a3 (br_f a4 (br_f a5 (br_f a1 (br_f a2 (br_t a3 (br_f a4 (br_f a5 ⟨rfl, R⟩)))))))))
  obtain ⟨z, hz⟩ : ∃ z : Int32, (if v2 = 0 then -nI c else 0) = z := ⟨_, rfl⟩
  refine br_f a1 (br_f a2 (br_t a3 (br_f a4 (br_t a5 (ls_amX hz ?_)))))
  by_cases b1 : v3 < z
  · exact br_t b1 (br_t rfl (br_f a1 (br_f a2 (br_t a3 (br_f a4 (br_t a5 (ls_amY hz (br_t b1 ⟨rfl, R⟩))))))))
  by_cases b2 : nI c < v3
  · exact br_f b1 (br_t b2 (br_t rfl (br_f a1 (br_f a2 (br_t a3 (br_f a4 (br_t a5 (ls_amY hz (br_f b1 (br_f (Int32.not_le.mpr b2) ⟨rfl, R⟩))))))))))
  obtain ⟨p, hp, rfl⟩ := nI_of a2
  have hpn : p ≤ n := (nI_leI hp (by omega)).mp a3
  have hne : n ≠ r := fun e => a1 (congrArg nI e)
  have h40 : p < 40 := by omega
  have cl := ls_cl h40
  obtain ⟨ka', aa', va', hB', gk, ga, gv, HX⟩ := ls_gap (nI c) (nI r) n p 1 hpn (by omega) ka aa va hB
  obtain ⟨so', hs, HY⟩ := ls_insL (nI c) (nI r) n p (by omega) v2 v3 hpn kb ab vb ok oa ov (n + 1) 0 (by omega) so (fun j hj => absurd hj (by omega))
  obtain ⟨kb', ab', vb', ok', oa', ov', q1, q2, q3, HR⟩ := ls_reb (nI c) (nI r) (nI n) (n + 1) (by omega) kb ab vb so' ok oa ov
  refine br_f b1 (br_f b2 (br_f ls_10 (HX _ ?_)))
  refine ⟨ls_in h40, nm_r (e' := upd ka' p v2) (by rw [cl]) ⟨ls_in h40, nm_r (e' := upd aa' p v3) (by rw [cl]) ⟨ls_in h40, nm_r (e' := upd va' p 0) (by rw [cl, ls_nar (Or.inl rfl)]) ?_⟩⟩⟩
  refine br_f a1 (br_f a2 (br_t a3 (br_f a4 (br_t a5 (ls_amY hz (br_f b1 (br_t (Int32.not_lt.mp b2) ⟨_, HY _ ?_⟩)))))))
  unfold wY_insert_119
  refine HR _ _ (nI_1 n) ?_
  refine br_f (ls_n40 h40) ⟨ls_in h40, nm_r (e' := upd kb' p v2) (by rw [cl]) ⟨ls_in h40, nm_r (e' := upd ab' p v3) (by rw [cl]) ⟨ls_in h40, nm_r (e' := upd vb' p 0) (by rw [cl]) ?_⟩⟩⟩
  exact ⟨rfl, c, r, n + 1, _, _, _, _, _, _, _, _, _, _, rfl, rfl, hc, hr, by omega, ls_Bu hB' (Or.inl rfl),
    ls_eq3 (ls_insA v2 (by omega) hpn (ls_e1 hE) gk hs q1) (ls_insA v3 (by omega) hpn (ls_e2 hE) ga hs q2) (ls_insA 0 (by omega) hpn (ls_e3 hE) gv hs q3)⟩
theorem i_vc_remove {k : Nat} {u : SX} {v : SY} (I : i_Rel k u v) (hk : k + 5 ≤ 2562) (v1 : Int32) : wpX_remove (fun r u' => wpY_remove (fun r' v' => r' = r ∧ i_Rel (k + 5) u' v') v v1) u v1 := by
  have R := i_up I
  obtain ⟨c, r, n, ka, aa, va, kb, ab, vb, so, ok, oa, ov, rfl, rfl, hc, hr, hn, hB, hE⟩ := I
  unfold wpX_remove wpY_remove
  dsimp only
  rcases pk_ix v1 (n := n) (by omega) with h | h | ⟨p, hp, rfl⟩
  · exact br_t h (br_t rfl (br_t h ⟨rfl, R⟩))
  · have h0 : ¬ v1 < 0 := Int32.not_lt.mpr (Int32.le_trans (nI_pos' (by omega)) h)
    exact br_f h0 (br_t h (br_t rfl (br_f h0 (br_t h ⟨rfl, R⟩))))
  · have h0 : ¬ nI p < 0 := nI_pos (by omega)
    have h1 : ¬ nI n ≤ nI p := nI_ge hp (by omega)
    have h40 : p < 40 := by omega
    obtain ⟨m, rfl⟩ : ∃ m, n = m + 1 := ⟨n - 1, by omega⟩
    have e : kb (nI p).toNatClampNeg = ka (nI p).toNatClampNeg := by rw [ls_cl h40]; exact (hE p hp).1.symm
    obtain ⟨ka', aa', va', hB', gk, ga, gv, HX⟩ := ls_rmL (nI c) (nI r) (m + 1) (by omega) (ka (nI p).toNatClampNeg) (m - p) p (by omega) ka aa va hB
    obtain ⟨so', hs, HY⟩ := ls_rmY (nI c) (nI r) (m + 1) m p (by omega) rfl (kb (nI p).toNatClampNeg) hp kb ab vb ok oa ov m 0 (by omega) so (fun j hj => absurd hj (by omega))
    obtain ⟨kb', ab', vb', ok', oa', ov', q1, q2, q3, HR⟩ := ls_reb (nI c) (nI r) (nI (m + 1)) m (by omega) kb ab vb so' ok oa ov
    have xk : ∀ j, j < m → ka' j = ka (ls_sR p j) := fun j hj => ls_xR gk j (by omega)
    have xa : ∀ j, j < m → aa' j = aa (ls_sR p j) := fun j hj => ls_xR ga j (by omega)
    have xv : ∀ j, j < m → va' j = va (ls_sR p j) := fun j hj => ls_xR gv j (by omega)
    rw [nI_pred m] at HX
    refine br_f h0 (br_f h1 (br_f ls_10 ⟨ls_in h40, nm_e (nm_r (nI_1 p) ⟨_, HX _ ?_⟩)⟩))
    refine br_f h0 (br_f h1 (br_t (ls_l40 h40) ⟨ls_in h40, nm_e ⟨_, HY _ ?_⟩⟩))
    unfold wY_remove_69
    refine HR _ _ (nI_pred m) ?_
    exact ⟨e, c, r, m, _, _, _, _, _, _, _, _, _, _, rfl, rfl, hc, hr, by omega, hB',
      ls_eq3 (ls_comb (by omega) (fun j hj => ls_sR_lt hj) (ls_e1 hE) xk hs q1) (ls_comb (by omega) (fun j hj => ls_sR_lt hj) (ls_e2 hE) xa hs q2) (ls_comb (by omega) (fun j hj => ls_sR_lt hj) (ls_e3 hE) xv hs q3)⟩
theorem i_vc_move {k : Nat} {u : SX} {v : SY} (I : i_Rel k u v) (hk : k + 5 ≤ 2562) (v1 : Int32) (v2 : Int32) (v3 : Int32) : wpX_move (fun r u' => wpY_move (fun r' v' => r' = r ∧ i_Rel (k + 5) u' v') v v1 v2 v3) u v1 v2 v3 := by
  have R := i_up I
  obtain ⟨c, r, n, ka, aa, va, kb, ab, vb, so, ok, oa, ov, rfl, rfl, hc, hr, hn, hB, hE⟩ := I
  unfold wpX_move wpY_move
  dsimp only
  rcases ls_blk n (by omega) v1 v2 with ⟨f, t, h1, h2, rfl, rfl⟩ | ⟨bX, bY⟩
  · have hn4 : n ≤ 40 := by omega
    obtain ⟨l, rfl⟩ : ∃ l, t = f + l := ⟨t - f, by omega⟩
    have hl : nI (f + l) - nI f = nI l := (pk_sub h1).trans (congrArg nI (by omega))
    have hs1 : nI n - nI l = nI (n - l) := pk_sub (by omega)
    refine ls_gX h1 h2 hn4 (br_f ls_10 (nm_r hl ?_))
    by_cases h3 : v3 < 0
    · exact br_t h3 (ls_gY h1 h2 hn4 (br_t rfl (nm_r hl (br_t h3 ⟨rfl, R⟩))))
    by_cases h4 : v3 ≤ nI n - nI l
    rotate_left
    · exact br_f h3 (br_f h4 (ls_gY h1 h2 hn4 (br_t rfl (nm_r hl (br_f h3 (br_f h4 ⟨rfl, R⟩))))))
    obtain ⟨p, hp, rfl⟩ := nI_of h3
    have hpl : p ≤ n - l := by rw [hs1, nI_leI hp (by omega)] at h4; exact h4
    obtain ⟨so', hs, HY⟩ := ls_mvY (nI c) (nI r) n f l p hn4 (by omega) (by omega) kb ab vb ok oa ov n 0 (by omega) so (fun j hj => absurd hj (by omega))
    obtain ⟨kb', ab', vb', ok', oa', ov', q1, q2, q3, HR⟩ := ls_reb (nI c) (nI r) (nI n) n hn4 kb ab vb so' ok oa ov
    have hσ : ∀ j, j < n → ls_sM f l p j < n := fun j hj => ls_sM_lt (by omega) (by omega) hj
    refine br_f h3 (br_t h4 ?_)
    by_cases h5 : f ≤ p
    · obtain ⟨ka', aa', va', hB', gk, ga, gv, HX⟩ := ls_swapN (nI c) (nI r) (nI n) f (f + l) (p + l) h1 (by omega) (by omega) ka aa va hB
      rw [← nI_add p l] at HX
      refine br_t (nI_le h5 (by omega)) (HX _ ?_)
      refine ls_gY h1 h2 hn4 (br_t rfl (nm_r hl (br_f h3 (br_t h4 ⟨_, HY _ ?_⟩))))
      unfold wY_move_131
      refine HR _ _ rfl ?_
      exact ⟨rfl, c, r, n, _, _, _, _, _, _, _, _, _, _, rfl, rfl, hc, hr, hn, hB',
        ls_eq3 (ls_comb hn4 hσ (ls_e1 hE) (fun j _ => (gk j).trans (congrArg ka (ls_wM1 h5))) hs q1) (ls_comb hn4 hσ (ls_e2 hE) (fun j _ => (ga j).trans (congrArg aa (ls_wM1 h5))) hs q2) (ls_comb hn4 hσ (ls_e3 hE) (fun j _ => (gv j).trans (congrArg va (ls_wM1 h5))) hs q3)⟩
    · have h6 : p < f := by omega
      obtain ⟨ka', aa', va', hB', gk, ga, gv, HX⟩ := ls_swapN (nI c) (nI r) (nI n) p f (f + l) (by omega) h1 (by omega) ka aa va hB
      refine br_f (nI_ge h6 (by omega)) (HX _ ?_)
      refine ls_gY h1 h2 hn4 (br_t rfl (nm_r hl (br_f h3 (br_t h4 ⟨_, HY _ ?_⟩))))
      unfold wY_move_131
      refine HR _ _ rfl ?_
      exact ⟨rfl, c, r, n, _, _, _, _, _, _, _, _, _, _, rfl, rfl, hc, hr, hn, hB',
        ls_eq3 (ls_comb hn4 hσ (ls_e1 hE) (fun j _ => (gk j).trans (congrArg ka (ls_wM2 h6))) hs q1) (ls_comb hn4 hσ (ls_e2 hE) (fun j _ => (ga j).trans (congrArg aa (ls_wM2 h6))) hs q2) (ls_comb hn4 hσ (ls_e3 hE) (fun j _ => (gv j).trans (congrArg va (ls_wM2 h6))) hs q3)⟩
  · exact bX _ _ _ _ _ _ (br_t rfl (bY _ _ _ _ _ _ _ _ _ _ (br_f ls_10 ⟨rfl, R⟩)))
theorem i_vc_copy {k : Nat} {u : SX} {v : SY} (I : i_Rel k u v) (hk : k + 5 ≤ 2562) (v1 : Int32) (v2 : Int32) (v3 : Int32) : wpX_copy (fun r u' => wpY_copy (fun r' v' => r' = r ∧ i_Rel (k + 5) u' v') v v1 v2 v3) u v1 v2 v3 := by
  have R := i_up I
  obtain ⟨c, r, n, ka, aa, va, kb, ab, vb, so, ok, oa, ov, rfl, rfl, hc, hr, hn, hB, hE⟩ := I
  unfold wpX_copy wpY_copy
  dsimp only
  rcases ls_blk n (by omega) v1 v2 with ⟨f, t, h1, h2, rfl, rfl⟩ | ⟨bX, bY⟩
  · have hn4 : n ≤ 40 := by omega
    obtain ⟨l, rfl⟩ : ∃ l, t = f + l := ⟨t - f, by omega⟩
    have hl : nI (f + l) - nI f = nI l := (pk_sub h1).trans (congrArg nI (by omega))
    refine ls_gX h1 h2 hn4 (br_f ls_10 ?_)
    by_cases h3 : v3 < 0
    · exact br_t h3 (ls_gY h1 h2 hn4 (br_t rfl (br_t h3 ⟨rfl, R⟩)))
    by_cases h4 : v3 ≤ nI n
    rotate_left
    · exact br_f h3 (br_f h4 (ls_gY h1 h2 hn4 (br_t rfl (br_f h3 (br_f h4 ⟨rfl, R⟩)))))
    refine br_f h3 (br_t h4 (nm_r hl ?_))
    by_cases h5 : nI n + nI l ≤ nI r
    rotate_left
    · exact br_f h5 (ls_gY h1 h2 hn4 (br_t rfl (br_f h3 (br_t h4 (nm_r hl (br_f h5 ⟨rfl, R⟩))))))
    obtain ⟨p, hp, rfl⟩ := nI_of h3
    have hpn : p ≤ n := (nI_leI hp (by omega)).mp h4
    have hnl : n + l ≤ r := by rw [nI_add, nI_leI (by omega) (by omega)] at h5; exact h5
    obtain ⟨k1, a1, v1, B1, g1, g2, g3, HG⟩ := ls_gap (nI c) (nI r) n p l hpn (by omega) ka aa va hB
    obtain ⟨ka', aa', va', hB', c1, c2, c3, HX⟩ := ls_cpL (nI c) (nI r) (nI (n + l)) f p l n (by omega) hpn (by omega) l 0 (by omega) k1 a1 v1 B1
    obtain ⟨so', hs, HY⟩ := ls_coY (nI c) (nI r) n f l p (by omega) hpn kb ab vb ok oa ov (n + l) 0 (by omega) so (fun j hj => absurd hj (by omega))
    obtain ⟨kb', ab', vb', ok', oa', ov', q1, q2, q3, HR⟩ := ls_reb (nI c) (nI r) (nI n) (n + l) (by omega) kb ab vb so' ok oa ov
    have hσ : ∀ j, j < n + l → ls_sC f l p j < n := fun j hj => ls_sC_lt (by omega) hpn hj
    refine br_t h5 (HG _ ⟨_, HX _ ?_⟩)
    refine ls_gY h1 h2 hn4 (br_t rfl (br_f h3 (br_t h4 (nm_r hl (br_t h5 ⟨_, HY _ ?_⟩)))))
    unfold wY_copy_131
    refine HR _ _ (nI_add n l) ?_
    exact ⟨rfl, c, r, n + l, _, _, _, _, _, _, _, _, _, _, rfl, rfl, hc, hr, hnl, hB',
      ls_eq3 (ls_comb hn4 hσ (ls_e1 hE) (ls_xC (by omega) hpn g1 c1) hs q1) (ls_comb hn4 hσ (ls_e2 hE) (ls_xC (by omega) hpn g2 c2) hs q2) (ls_comb hn4 hσ (ls_e3 hE) (ls_xC (by omega) hpn g3 c3) hs q3)⟩
  · exact bX _ _ _ _ _ _ (br_t rfl (bY _ _ _ _ _ _ _ _ _ _ (br_f ls_10 ⟨rfl, R⟩)))
theorem i_vc_reverse {k : Nat} {u : SX} {v : SY} (I : i_Rel k u v) (hk : k + 5 ≤ 2562) (v1 : Int32) (v2 : Int32) : wpX_reverse (fun r u' => wpY_reverse (fun r' v' => r' = r ∧ i_Rel (k + 5) u' v') v v1 v2) u v1 v2 := by
  have R := i_up I
  obtain ⟨c, r, n, ka, aa, va, kb, ab, vb, so, ok, oa, ov, rfl, rfl, hc, hr, hn, hB, hE⟩ := I
  unfold wpX_reverse wpY_reverse
  dsimp only
  rcases ls_blk n (by omega) v1 v2 with ⟨f, t, h1, h2, rfl, rfl⟩ | ⟨bX, bY⟩
  · have hn4 : n ≤ 40 := by omega
    obtain ⟨ka', aa', va', hB', gk, ga, gv, HX⟩ := ls_turn (nI c) (nI r) (nI n) f t h1 (by omega) ka aa va hB
    obtain ⟨so', hs, HY⟩ := ls_rvY (nI c) (nI r) n f t hn4 h1 h2 kb ab vb ok oa ov n 0 (by omega) so (fun j hj => absurd hj (by omega))
    obtain ⟨kb', ab', vb', ok', oa', ov', q1, q2, q3, HR⟩ := ls_reb (nI c) (nI r) (nI n) n hn4 kb ab vb so' ok oa ov
    refine ls_gX h1 h2 hn4 (br_f ls_10 (HX _ ?_))
    refine ls_gY h1 h2 hn4 (br_t rfl ⟨_, HY _ ?_⟩)
    unfold wY_reverse_60
    refine HR _ _ rfl ?_
    exact ⟨rfl, c, r, n, _, _, _, _, _, _, _, _, _, _, rfl, rfl, hc, hr, hn, hB',
      ls_eq3 (ls_comb hn4 (fun j hj => ls_sV_lt h2 hj) (ls_e1 hE) (ls_xV gk) hs q1) (ls_comb hn4 (fun j hj => ls_sV_lt h2 hj) (ls_e2 hE) (ls_xV ga) hs q2) (ls_comb hn4 (fun j hj => ls_sV_lt h2 hj) (ls_e3 hE) (ls_xV gv) hs q3)⟩
  · exact bX _ _ _ _ _ _ (br_t rfl (bY _ _ _ _ _ _ _ _ _ _ (br_f ls_10 ⟨rfl, R⟩)))
