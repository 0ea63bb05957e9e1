/-! what the queries answer, in lockstep: one answer for both sides -/
theorem ls_app (c r s : Int32) (ka aa va kb ab vb so ok oa ov : Nat → Int32) (p x : Int32) (hp : vp_in p 40)
    (ek : ka p.toNatClampNeg = kb p.toNatClampNeg) (ea : aa p.toNatClampNeg = ab p.toNatClampNeg) (ev : va p.toNatClampNeg = vb p.toNatClampNeg)
    (hb : va p.toNatClampNeg = 0 ∨ va p.toNatClampNeg = 1) :
    ∃ y : Int32, (∀ post : Int32 → Prop, post y → wpX_applied post (c, r, s, ka, aa, va) p x) ∧ (∀ post : Int32 → Prop, post y → wpY_applied post (c, r, s, kb, ab, vb, so, ok, oa, ov) p x) := by
  unfold wpX_applied wpY_applied wpX_clamp
  dsimp only
  rw [← ek, ← ea, ← ev]
  generalize ka p.toNatClampNeg = K
  generalize aa p.toNatClampNeg = A
  rcases hb with hb | hb <;> rw [hb]
  · by_cases k0 : K = 0
    · subst k0
      by_cases g0 : 0 ≤ x + A
      · by_cases g1 : x + A ≤ c
        · exact ⟨x + A, fun post h => ⟨hp, br_t rfl ⟨hp, nm_e ⟨hp, nm_e (br_f ls_l00 (br_f ls_l20 (br_t rfl (br_t g0 (br_t g1 h)))))⟩⟩⟩,
            fun post h => ⟨hp, br_f ls_01 ⟨hp, nm_e ⟨hp, br_t rfl (nm_e (br_t g0 (br_t g1 h)))⟩⟩⟩⟩
        · exact ⟨c, fun post h => ⟨hp, br_t rfl ⟨hp, nm_e ⟨hp, nm_e (br_f ls_l00 (br_f ls_l20 (br_t rfl (br_t g0 (br_f g1 h)))))⟩⟩⟩,
            fun post h => ⟨hp, br_f ls_01 ⟨hp, nm_e ⟨hp, br_t rfl (nm_e (br_t g0 (br_f g1 h)))⟩⟩⟩⟩
      · exact ⟨0, fun post h => ⟨hp, br_t rfl ⟨hp, nm_e ⟨hp, nm_e (br_f ls_l00 (br_f ls_l20 (br_t rfl (br_f g0 h))))⟩⟩⟩,
            fun post h => ⟨hp, br_f ls_01 ⟨hp, nm_e ⟨hp, br_t rfl (nm_e (br_f g0 h))⟩⟩⟩⟩
    · by_cases k1 : K = 1
      · subst k1
        by_cases g : x ≤ A
        · exact ⟨A, fun post h => ⟨hp, br_t rfl ⟨hp, nm_e ⟨hp, nm_e (br_f ls_l10 (br_f ls_l21 (br_f ls_10 (br_t rfl (br_t g h)))))⟩⟩⟩,
            fun post h => ⟨hp, br_f ls_01 ⟨hp, nm_e ⟨hp, br_f ls_10 ⟨hp, br_t rfl (br_t g h)⟩⟩⟩⟩⟩
        · exact ⟨x, fun post h => ⟨hp, br_t rfl ⟨hp, nm_e ⟨hp, nm_e (br_f ls_l10 (br_f ls_l21 (br_f ls_10 (br_t rfl (br_f g h)))))⟩⟩⟩,
            fun post h => ⟨hp, br_f ls_01 ⟨hp, nm_e ⟨hp, br_f ls_10 ⟨hp, br_t rfl (br_f g h)⟩⟩⟩⟩⟩
      · by_cases k2 : K = 2
        · subst k2
          by_cases g : A ≤ x
          · exact ⟨A, fun post h => ⟨hp, br_t rfl ⟨hp, nm_e ⟨hp, nm_e (br_f ls_l20 (br_f ls_l22 (br_f ls_20 (br_f ls_21 (br_t rfl (br_t g h))))))⟩⟩⟩,
              fun post h => ⟨hp, br_f ls_01 ⟨hp, nm_e ⟨hp, br_f ls_20 ⟨hp, br_f ls_21 ⟨hp, br_t rfl (br_t g h)⟩⟩⟩⟩⟩⟩
          · exact ⟨x, fun post h => ⟨hp, br_t rfl ⟨hp, nm_e ⟨hp, nm_e (br_f ls_l20 (br_f ls_l22 (br_f ls_20 (br_f ls_21 (br_t rfl (br_f g h))))))⟩⟩⟩,
              fun post h => ⟨hp, br_f ls_01 ⟨hp, nm_e ⟨hp, br_f ls_20 ⟨hp, br_f ls_21 ⟨hp, br_t rfl (br_f g h)⟩⟩⟩⟩⟩⟩
        · exact ⟨A, fun post h => ⟨hp, br_t rfl ⟨hp, nm_e ⟨hp, nm_e (br_c (fun _ => h) (fun _ => br_c (fun _ => h) (fun _ => br_f k0 (br_f k1 (br_f k2 trivial)))))⟩⟩⟩,
            fun post h => ⟨hp, br_f ls_01 ⟨hp, nm_e ⟨hp, br_f k0 ⟨hp, br_f k1 ⟨hp, br_f k2 h⟩⟩⟩⟩⟩⟩
  · exact ⟨x, fun post h => ⟨hp, br_f ls_10 h⟩, fun post h => ⟨hp, br_t rfl h⟩⟩

theorem ls_clo (c r s : Int32) (ka aa va kb ab vb so ok oa ov : Nat → Int32) (t : Nat) (ht : t ≤ 40) (hB : ls_B va) (hE : ls_Eq t ka aa va kb ab vb) : ∀ d f : Nat, f + d = t → ∀ x : Int32, ∃ y : Int32,
    (∀ post : Int32 → Prop, post y → wX_closing_6 post (nI t) c r s ka aa va (d + 1) x (nI f)) ∧ (∀ post : Int32 → Prop, post y → wY_replay_6 post (nI t) c r s kb ab vb so ok oa ov (d + 1) x (nI f)) := by
  intro d
  induction d with
  | zero =>
    intro f hf x
    have h : nI t ≤ nI f := nI_le (by omega) (by omega)
    exact ⟨x, fun _ hp => br_t h hp, fun _ hp => br_t h hp⟩
  | succ d ih =>
    intro f hf x
    have h : ¬ nI t ≤ nI f := nI_ge (by omega) (by omega)
    have h40 : f < 40 := by omega
    have e := hE f (by omega)
    have cl := ls_cl h40
    obtain ⟨y1, hX1, hY1⟩ := ls_app c r s ka aa va kb ab vb so ok oa ov (nI f) x (ls_in h40) (by rw [cl]; exact e.1) (by rw [cl]; exact e.2.1) (by rw [cl]; exact e.2.2) (by rw [cl]; exact hB f)
    obtain ⟨y, hX2, hY2⟩ := ih (f + 1) (by omega) y1
    exact ⟨y, fun post hp => br_f h (hX1 _ (nm_r (nI_1 f) (hX2 post hp))), fun post hp => br_f h (br_f (ls_n40 h40) (hY1 _ (nm_r (nI_1 f) (hY2 post hp))))⟩
theorem ls_closing (c r s : Int32) (ka aa va kb ab vb so ok oa ov : Nat → Int32) (f t : Nat) (hft : f ≤ t) (ht : t ≤ 40) (hB : ls_B va) (hE : ls_Eq t ka aa va kb ab vb) (x : Int32) : ∃ y : Int32,
    (∀ post : Int32 → Prop, post y → wpX_closing post (c, r, s, ka, aa, va) (nI f) (nI t) x) ∧ (∀ post : Int32 → Prop, post y → wpY_replay post (c, r, s, kb, ab, vb, so, ok, oa, ov) (nI f) (nI t) x) := by
  obtain ⟨y, hX, hY⟩ := ls_clo c r s ka aa va kb ab vb so ok oa ov t ht hB hE (t - f) f (by omega) x
  exact ⟨y, fun post hp => ⟨_, hX post hp⟩, fun post hp => ⟨_, hY post hp⟩⟩

theorem ls_rep (c r s : Int32) (ka aa va kb ab vb so ok oa ov : Nat → Int32) (f t : Nat) (hft : f ≤ t) (ht : t ≤ 40) (hB : ls_B va) (hE : ls_Eq t ka aa va kb ab vb) (m : Nat) (hm : m ≤ 200) : ∀ d i : Nat, i + d = m → ∀ x : Int32, ∃ y : Int32,
    (∀ post : Int32 → Prop, post y → wX_closingAfter_6 post (nI f) (nI t) (nI m) c r s ka aa va (d + 1) x (nI i)) ∧ (∀ post : Int32 → Prop, post y → wY_repeat_48 post (nI f) (nI t) (nI m) c r s kb ab vb so ok oa ov (d + 1) x (nI i)) := by
  intro d
  induction d with
  | zero =>
    intro i hi x
    have h : nI m ≤ nI i := nI_le (by omega) (by omega)
    exact ⟨x, fun _ hp => br_t h hp, fun _ hp => br_t h hp⟩
  | succ d ih =>
    intro i hi x
    have h : ¬ nI m ≤ nI i := nI_ge (by omega) (by omega)
    obtain ⟨y1, hX1, hY1⟩ := ls_closing c r s ka aa va kb ab vb so ok oa ov f t hft ht hB hE x
    obtain ⟨y, hX2, hY2⟩ := ih (i + 1) (by omega) y1
    exact ⟨y, fun post hp => br_f h (hX1 _ (nm_r (nI_1 i) (hX2 post hp))), fun post hp => br_f h (hY1 _ (nm_r (nI_1 i) (hY2 post hp)))⟩
theorem ls_rst (c r s : Int32) (ka aa va kb ab vb so ok oa ov : Nat → Int32) (f t : Nat) (hft : f ≤ t) (ht : t ≤ 40) (hB : ls_B va) (hE : ls_Eq t ka aa va kb ab vb) (m : Nat) (hm : m ≤ 200) (hc : c + 1 = nI m) : ∀ d i : Nat, i + d = m → ∀ x : Int32, ∃ y : Int32,
    (∀ post : Int32 → Prop, post y → wX_closingAfter_6 post (nI f) (nI t) (c + 1) c r s ka aa va (d + 1) x (nI i)) ∧ (∀ post : Int32 → Prop, post y → wY_rest_32 post (nI f) (nI t) c r s kb ab vb so ok oa ov (d + 1) x (nI i)) := by
  intro d
  induction d with
  | zero =>
    intro i hi x
    have h : c + 1 ≤ nI i := by rw [hc]; exact nI_le (by omega) (by omega)
    exact ⟨x, fun _ hp => br_t h hp, fun _ hp => br_t h hp⟩
  | succ d ih =>
    intro i hi x
    have h : ¬ c + 1 ≤ nI i := by rw [hc]; exact nI_ge (by omega) (by omega)
    obtain ⟨y1, hX1, hY1⟩ := ls_closing c r s ka aa va kb ab vb so ok oa ov f t hft ht hB hE x
    obtain ⟨y, hX2, hY2⟩ := ih (i + 1) (by omega) y1
    exact ⟨y, fun post hp => br_f h (hX1 _ (nm_r (nI_1 i) (hX2 post hp))), fun post hp => br_f h (hY1 _ (nm_r (nI_1 i) (hY2 post hp)))⟩
theorem ls_lst (c r s : Int32) (ka aa va kb ab vb so ok oa ov : Nat → Int32) (f t : Nat) (hft : f ≤ t) (ht : t ≤ 40) (hB : ls_B va) (hE : ls_Eq t ka aa va kb ab vb) (m : Nat) (hm : m ≤ 60) (hc : c = nI m) (y : Int32) : ∀ d i : Nat, i + d = m + 1 → ∃ z : Int32,
    (∀ post : Int32 → Prop, post z → wX_leastOpening_25 post (nI f) (nI t) y c r s ka aa va (d + 1) (nI i)) ∧ (∀ post : Int32 → Prop, post z → wY_leastOpening_29 post (nI f) (nI t) y c r s kb ab vb so ok oa ov (d + 1) (nI i)) := by
  intro d
  induction d with
  | zero =>
    intro i hi
    have h : c < nI i := by rw [hc]; exact nI_lt (by omega) (by omega)
    exact ⟨-3, fun _ hp => br_t h hp, fun _ hp => br_t h hp⟩
  | succ d ih =>
    intro i hi
    have h : ¬ c < nI i := by rw [hc]; exact nI_nlt (by omega) (by omega)
    obtain ⟨y1, hX1, hY1⟩ := ls_closing c r s ka aa va kb ab vb so ok oa ov f t hft ht hB hE (nI i)
    by_cases g : y1 < y
    · obtain ⟨z, hX2, hY2⟩ := ih (i + 1) (by omega)
      exact ⟨z, fun post hp => br_f h (hX1 _ (br_t g (nm_r (nI_1 i) (hX2 post hp)))), fun post hp => br_f h (hY1 _ (br_t g (nm_r (nI_1 i) (hY2 post hp))))⟩
    · exact ⟨nI i, fun post hp => br_f h (hX1 _ (br_f g hp)), fun post hp => br_f h (hY1 _ (br_f g hp))⟩
theorem ls_opn (c r s : Int32) (ka aa va kb ab vb so ok oa ov : Nat → Int32) (f t : Nat) (hft : f ≤ t) (ht : t ≤ 40) (hB : ls_B va) (hE : ls_Eq t ka aa va kb ab vb) (m : Nat) (hm : m ≤ 60) (hc : c = nI m) (y : Int32) : ∀ d i : Nat, i + d = m + 1 → ∀ a : Int32, ∃ z : Int32,
    (∀ post : Int32 → Prop, post z → wX_openings_28 post (nI f) (nI t) y c r s ka aa va (d + 1) a (nI i)) ∧ (∀ post : Int32 → Prop, post z → wY_openings_32 post (nI f) (nI t) y c r s kb ab vb so ok oa ov (d + 1) a (nI i)) := by
  intro d
  induction d with
  | zero =>
    intro i hi a
    have h : c < nI i := by rw [hc]; exact nI_lt (by omega) (by omega)
    exact ⟨a, fun _ hp => br_t h hp, fun _ hp => br_t h hp⟩
  | succ d ih =>
    intro i hi a
    have h : ¬ c < nI i := by rw [hc]; exact nI_nlt (by omega) (by omega)
    obtain ⟨y1, hX1, hY1⟩ := ls_closing c r s ka aa va kb ab vb so ok oa ov f t hft ht hB hE (nI i)
    by_cases g : y1 = y
    · obtain ⟨z, hX2, hY2⟩ := ih (i + 1) (by omega) (a + 1)
      exact ⟨z, fun post hp => br_f h (hX1 _ (br_t g (nm_e (nm_r (nI_1 i) (hX2 post hp))))), fun post hp => br_f h (hY1 _ (br_t g (nm_e (nm_r (nI_1 i) (hY2 post hp)))))⟩
    · obtain ⟨z, hX2, hY2⟩ := ih (i + 1) (by omega) a
      exact ⟨z, fun post hp => br_f h (hX1 _ (br_f g (nm_r (nI_1 i) (hX2 post hp)))), fun post hp => br_f h (hY1 _ (br_f g (nm_r (nI_1 i) (hY2 post hp))))⟩

theorem ls_liv (c r s : Int32) (ka aa va kb ab vb so ok oa ov : Nat → Int32) (t : Nat) (ht : t ≤ 40) (hE : ls_Eq t ka aa va kb ab vb) : ∀ d f : Nat, f + d = t → ∀ a : Int32, ∃ z : Int32,
    (∀ post : Int32 → Prop, post z → wX_liveCount_16 post (nI t) c r s ka aa va (d + 1) a (nI f)) ∧ (∀ post : Int32 → Prop, post z → wY_liveCount_16 post (nI t) c r s kb ab vb so ok oa ov (d + 1) a (nI f)) := by
  intro d
  induction d with
  | zero =>
    intro f hf a
    have h : nI t ≤ nI f := nI_le (by omega) (by omega)
    exact ⟨a, fun _ hp => br_t h hp, fun _ hp => br_t h hp⟩
  | succ d ih =>
    intro f hf a
    have h : ¬ nI t ≤ nI f := nI_ge (by omega) (by omega)
    have h40 : f < 40 := by omega
    have ev : va (nI f).toNatClampNeg = vb (nI f).toNatClampNeg := by rw [ls_cl h40]; exact (hE f (by omega)).2.2
    by_cases g : va (nI f).toNatClampNeg = 0
    · obtain ⟨z, hX2, hY2⟩ := ih (f + 1) (by omega) (a + 1)
      exact ⟨z, fun post hp => br_f h ⟨ls_in h40, br_t g (nm_e (nm_r (nI_1 f) (hX2 post hp)))⟩,
        fun post hp => br_f h (br_f (ls_n40 h40) ⟨ls_in h40, br_t (ev.symm.trans g) (nm_e (nm_r (nI_1 f) (hY2 post hp)))⟩)⟩
    · obtain ⟨z, hX2, hY2⟩ := ih (f + 1) (by omega) a
      exact ⟨z, fun post hp => br_f h ⟨ls_in h40, br_f g (nm_r (nI_1 f) (hX2 post hp))⟩,
        fun post hp => br_f h (br_f (ls_n40 h40) ⟨ls_in h40, br_f (fun z => g (ev.trans z)) (nm_r (nI_1 f) (hY2 post hp))⟩)⟩
theorem ls_net (c r s : Int32) (ka aa va kb ab vb so ok oa ov : Nat → Int32) (t : Nat) (ht : t ≤ 40) (hE : ls_Eq t ka aa va kb ab vb) : ∀ d f : Nat, f + d = t → ∀ a : Int32, ∃ z : Int32,
    (∀ post : Int32 → Prop, post z → wX_net_17 post (nI t) c r s ka aa va (d + 1) a (nI f)) ∧ (∀ post : Int32 → Prop, post z → wY_net_17 post (nI t) c r s kb ab vb so ok oa ov (d + 1) a (nI f)) := by
  intro d
  induction d with
  | zero =>
    intro f hf a
    have h : nI t ≤ nI f := nI_le (by omega) (by omega)
    exact ⟨a, fun _ hp => br_t h hp, fun _ hp => br_t h hp⟩
  | succ d ih =>
    intro f hf a
    have h : ¬ nI t ≤ nI f := nI_ge (by omega) (by omega)
    have h40 : f < 40 := by omega
    have e := hE f (by omega)
    have ek : ka (nI f).toNatClampNeg = kb (nI f).toNatClampNeg := by rw [ls_cl h40]; exact e.1
    have ea : aa (nI f).toNatClampNeg = ab (nI f).toNatClampNeg := by rw [ls_cl h40]; exact e.2.1
    have ev : va (nI f).toNatClampNeg = vb (nI f).toNatClampNeg := by rw [ls_cl h40]; exact e.2.2
    by_cases g : va (nI f).toNatClampNeg = 0
    · by_cases g2 : ka (nI f).toNatClampNeg = 0
      · obtain ⟨z, hX2, hY2⟩ := ih (f + 1) (by omega) (a + aa (nI f).toNatClampNeg)
        exact ⟨z, fun post hp => br_f h ⟨ls_in h40, br_t g ⟨ls_in h40, br_t g2 ⟨ls_in h40, nm_e (nm_r (nI_1 f) (hX2 post hp))⟩⟩⟩,
          fun post hp => br_f h (br_f (ls_n40 h40) ⟨ls_in h40, br_t (ev.symm.trans g) ⟨ls_in h40, br_t (ek.symm.trans g2) ⟨ls_in h40, nm_r (congrArg (fun z => a + z) ea.symm) (nm_r (nI_1 f) (hY2 post hp))⟩⟩⟩)⟩
      · obtain ⟨z, hX2, hY2⟩ := ih (f + 1) (by omega) a
        exact ⟨z, fun post hp => br_f h ⟨ls_in h40, br_t g ⟨ls_in h40, br_f g2 (nm_r (nI_1 f) (hX2 post hp))⟩⟩,
          fun post hp => br_f h (br_f (ls_n40 h40) ⟨ls_in h40, br_t (ev.symm.trans g) ⟨ls_in h40, br_f (fun z => g2 (ek.trans z)) (nm_r (nI_1 f) (hY2 post hp))⟩⟩)⟩
    · obtain ⟨z, hX2, hY2⟩ := ih (f + 1) (by omega) a
      exact ⟨z, fun post hp => br_f h ⟨ls_in h40, br_f g (nm_r (nI_1 f) (hX2 post hp))⟩,
        fun post hp => br_f h (br_f (ls_n40 h40) ⟨ls_in h40, br_f (fun z => g (ev.trans z)) (nm_r (nI_1 f) (hY2 post hp))⟩)⟩

theorem ls_sv (c r s : Int32) (ka aa kb ab so ok oa ov : Nat → Int32) (t n : Nat) (htn : t ≤ n) (hn : n ≤ 40) (w : Int32) (hw : w = 0 ∨ w = 1) :
    ∀ d f : Nat, f + d = t → ∀ (a : Int32) (va vb : Nat → Int32), ls_B va → (∀ j, j < n → va j = vb j) →
    ∃ (y : Int32) (va' vb' : Nat → Int32), ls_B va' ∧ (∀ j, j < n → va' j = vb' j) ∧
      (∀ post : Int32 → SX → Prop, post y (c, r, s, ka, aa, va') → wX_setVoid_28 post (nI t) w c r s (d + 1) a (nI f) ka aa va) ∧
      (∀ post : Int32 → SY → Prop, post y (c, r, s, kb, ab, vb', so, ok, oa, ov) → wY_setVoid_28 post (nI t) w c r s (d + 1) a (nI f) kb ab vb so ok oa ov) := by
  intro d
  induction d with
  | zero =>
    intro f hf a va vb hB hE
    have h : nI t ≤ nI f := nI_le (by omega) (by omega)
    exact ⟨a, va, vb, hB, hE, fun _ hp => br_t h hp, fun _ hp => br_t h hp⟩
  | succ d ih =>
    intro f hf a va vb hB hE
    have h : ¬ nI t ≤ nI f := nI_ge (by omega) (by omega)
    have h40 : f < 40 := by omega
    have ev : va (nI f).toNatClampNeg = vb (nI f).toNatClampNeg := by rw [ls_cl h40]; exact hE f (by omega)
    by_cases g : va (nI f).toNatClampNeg = w
    · obtain ⟨y, va', vb', hB', hE', hX2, hY2⟩ := ih (f + 1) (by omega) a va (upd vb (nI f).toNatClampNeg w) hB (by
        intro j hj
        by_cases e : j = (nI f).toNatClampNeg
        · rw [e, pk_us]; exact g
        · rw [pk_un e]; exact hE j hj)
      exact ⟨y, va', vb', hB', hE', fun post hp => br_f h ⟨ls_in h40, br_t g (nm_r (nI_1 f) (hX2 post hp))⟩,
        fun post hp => br_f h (br_f (ls_n40 h40) ⟨ls_in h40, br_t (ev.symm.trans g) ⟨ls_in h40, nm_e (nm_r (nI_1 f) (hY2 post hp))⟩⟩)⟩
    · obtain ⟨y, va', vb', hB', hE', hX2, hY2⟩ := ih (f + 1) (by omega) (a + 1) (upd va (nI f).toNatClampNeg w) (upd vb (nI f).toNatClampNeg w) (ls_Bu hB hw) (by
        intro j hj
        by_cases e : j = (nI f).toNatClampNeg
        · rw [e, pk_us, pk_us]
        · rw [pk_un e, pk_un e]; exact hE j hj)
      exact ⟨y, va', vb', hB', hE', fun post hp => br_f h ⟨ls_in h40, br_f g ⟨ls_in h40, nm_r (congrArg (upd va (nI f).toNatClampNeg) (ls_nar hw)) (nm_e (nm_r (nI_1 f) (hX2 post hp)))⟩⟩,
        fun post hp => br_f h (br_f (ls_n40 h40) ⟨ls_in h40, br_f (fun z => g (ev.trans z)) (nm_e ⟨ls_in h40, nm_e (nm_r (nI_1 f) (hY2 post hp))⟩)⟩)⟩
