/-! what the reference's rebuild and its loops over source do -/
/-- cell p has what stood at its source, where that lies within -/
def ls_Q (m : Nat) (so f g : Nat → Int32) : Prop := ∀ p, p < m → ∀ q, q < 40 → so p = nI q → g p = f q
def ls_K (i : Nat) (f g : Nat → Int32) : Prop := ∀ j, j < i → g j = f j
theorem ls_K0 {f g : Nat → Int32} : ls_K 0 f g := fun _ h => absurd h (by omega)
theorem ls_Q0 {so f g : Nat → Int32} : ls_Q 0 so f g := fun _ h => absurd h (by omega)
theorem ls_Ku {i : Nat} {f g : Nat → Int32} (h : ls_K i f g) : ls_K (i + 1) f (upd g i (f i)) := by
  intro j hj
  by_cases e : j = i
  · rw [e, pk_us]
  · rw [pk_un e]; exact h j (by omega)
theorem ls_Qn {i : Nat} {so f g : Nat → Int32} (h : ls_Q i so f g) (no : ∀ q, q < 40 → so i = nI q → False) : ls_Q (i + 1) so f g := by
  intro p hp q hq e
  by_cases e1 : p = i
  · rw [e1] at e; exact (no q hq e).elim
  · exact h p (by omega) q hq e
theorem ls_Qu {i q : Nat} {so f g : Nat → Int32} (h : ls_Q i so f g) (hq : q < 40) (z : so i = nI q) : ls_Q (i + 1) so f (upd g i (f q)) := by
  intro p hp q' hq' e
  by_cases e1 : p = i
  · rw [e1] at e
    have e2 : q = q' := (nI_eq (by omega) (by omega)).mp (z.symm.trans e)
    rw [e1, pk_us, e2]
  · rw [pk_un e1]; exact h p (by omega) q' hq' e
theorem ls_QK {m : Nat} {so f f' g : Nat → Int32} (h : ls_Q m so f' g) (k : ls_K 40 f f') : ls_Q m so f g :=
  fun p hp q hq e => (h p hp q hq e).trans (k q hq)

theorem ls_reb1 (c r s m : Int32) (kb ab vb so : Nat → Int32) : ∀ d i : Nat, i + d = 40 → ∀ ok oa ov : Nat → Int32, ls_K i kb ok → ls_K i ab oa → ls_K i vb ov →
    ∃ ok' oa' ov' : Nat → Int32, ls_K 40 kb ok' ∧ ls_K 40 ab oa' ∧ ls_K 40 vb ov' ∧
      ∀ post : SY → Prop, (∃ n52 : Nat, wY_rebuild_52 post m c r s n52 0 kb ab vb so ok' oa' ov') → wY_rebuild_2 post m c r s (d + 1) (nI i) kb ab vb so ok oa ov := by
  intro d
  induction d with
  | zero =>
    intro i hi ok oa ov hk ha hv
    have e : i = 40 := by omega
    subst e
    exact ⟨ok, oa, ov, hk, ha, hv, fun post hp => br_t (nI_le (a := 40) (b := 40) (Nat.le_refl _) (by omega)) hp⟩
  | succ d ih =>
    intro i hi ok oa ov hk ha hv
    have h40 : i < 40 := by omega
    have cl := ls_cl h40
    obtain ⟨ok', oa', ov', h1, h2, h3, H⟩ := ih (i + 1) (by omega) (upd ok i (kb i)) (upd oa i (ab i)) (upd ov i (vb i)) (ls_Ku hk) (ls_Ku ha) (ls_Ku hv)
    exact ⟨ok', oa', ov', h1, h2, h3, fun post hp => br_f (ls_n40 h40)
      ⟨ls_in h40, ls_in h40, nm_r (show upd ok (nI i).toNatClampNeg (kb (nI i).toNatClampNeg) = upd ok i (kb i) by rw [cl])
        ⟨ls_in h40, ls_in h40, nm_r (show upd oa (nI i).toNatClampNeg (ab (nI i).toNatClampNeg) = upd oa i (ab i) by rw [cl])
          ⟨ls_in h40, ls_in h40, nm_r (show upd ov (nI i).toNatClampNeg (vb (nI i).toNatClampNeg) = upd ov i (vb i) by rw [cl])
            (nm_r (nI_1 i) (H post hp))⟩⟩⟩⟩
theorem ls_reb2 (c r s : Int32) (m : Nat) (hm : m ≤ 40) (so ok oa ov : Nat → Int32) : ∀ d i : Nat, i + d = m → ∀ kb ab vb : Nat → Int32, ls_Q i so ok kb → ls_Q i so oa ab → ls_Q i so ov vb →
    ∃ kb' ab' vb' : Nat → Int32, ls_Q m so ok kb' ∧ ls_Q m so oa ab' ∧ ls_Q m so ov vb' ∧
      ∀ post : SY → Prop, post (c, r, nI m, kb', ab', vb', so, ok, oa, ov) → wY_rebuild_52 post (nI m) c r s (d + 1) (nI i) kb ab vb so ok oa ov := by
  intro d
  induction d with
  | zero =>
    intro i hi kb ab vb hk ha hv
    have e : i = m := by omega
    subst e
    exact ⟨kb, ab, vb, hk, ha, hv, fun post hp => br_t (nI_le (Nat.le_refl _) (by omega)) hp⟩
  | succ d ih =>
    intro i hi kb ab vb hk ha hv
    have h : ¬ nI m ≤ nI i := nI_ge (by omega) (by omega)
    have h40 : i < 40 := by omega
    have cl := ls_cl h40
    rcases pk_ix (so i) (n := 40) (by omega) with z | z | ⟨q, hq, z⟩
    · have no : ∀ q, q < 40 → so i = nI q → False := fun q hq e => by rw [e] at z; exact nI_pos (by omega) z
      obtain ⟨kb', ab', vb', g1, g2, g3, H⟩ := ih (i + 1) (by omega) kb ab vb (ls_Qn hk no) (ls_Qn ha no) (ls_Qn hv no)
      have z' : so (nI i).toNatClampNeg < 0 := by rw [cl]; exact z
      exact ⟨kb', ab', vb', g1, g2, g3, fun post hp => br_f h (br_f (ls_n40 h40) ⟨ls_in h40, nm_e (br_t z' (nm_r (nI_1 i) (H post hp)))⟩)⟩
    · have no : ∀ q, q < 40 → so i = nI q → False := fun q hq e => by rw [e] at z; exact ls_n40 hq z
      obtain ⟨kb', ab', vb', g1, g2, g3, H⟩ := ih (i + 1) (by omega) kb ab vb (ls_Qn hk no) (ls_Qn ha no) (ls_Qn hv no)
      have z' : (40 : Int32) ≤ so (nI i).toNatClampNeg := by rw [cl]; exact z
      have z0 : ¬ so (nI i).toNatClampNeg < 0 := Int32.not_lt.mpr (Int32.le_trans (by decide) z')
      exact ⟨kb', ab', vb', g1, g2, g3, fun post hp => br_f h (br_f (ls_n40 h40) ⟨ls_in h40, nm_e (br_f z0 (br_t z' (nm_r (nI_1 i) (H post hp))))⟩)⟩
    · obtain ⟨kb', ab', vb', g1, g2, g3, H⟩ := ih (i + 1) (by omega) (upd kb i (ok q)) (upd ab i (oa q)) (upd vb i (ov q)) (ls_Qu hk hq z) (ls_Qu ha hq z) (ls_Qu hv hq z)
      have z' : so (nI i).toNatClampNeg = nI q := by rw [cl]; exact z
      have cq := ls_cl hq
      exact ⟨kb', ab', vb', g1, g2, g3, fun post hp => br_f h (br_f (ls_n40 h40) ⟨ls_in h40, nm_r z' (br_f (nI_pos (by omega)) (br_f (ls_n40 hq)
        ⟨ls_in hq, ls_in h40, nm_r (show upd kb (nI i).toNatClampNeg (ok (nI q).toNatClampNeg) = upd kb i (ok q) by rw [cl, cq])
          ⟨ls_in hq, ls_in h40, nm_r (show upd ab (nI i).toNatClampNeg (oa (nI q).toNatClampNeg) = upd ab i (oa q) by rw [cl, cq])
            ⟨ls_in hq, ls_in h40, nm_r (show upd vb (nI i).toNatClampNeg (ov (nI q).toNatClampNeg) = upd vb i (ov q) by rw [cl, cq])
              (nm_r (nI_1 i) (H post hp))⟩⟩⟩))⟩)⟩
theorem ls_reb (c r s : Int32) (m : Nat) (hm : m ≤ 40) (kb ab vb so ok oa ov : Nat → Int32) :
    ∃ kb' ab' vb' ok' oa' ov' : Nat → Int32, ls_Q m so kb kb' ∧ ls_Q m so ab ab' ∧ ls_Q m so vb vb' ∧
      ∀ (post : SY → Prop) (M : Int32), M = nI m → post (c, r, nI m, kb', ab', vb', so, ok', oa', ov') → wpY_rebuild post (c, r, s, kb, ab, vb, so, ok, oa, ov) M := by
  obtain ⟨ok', oa', ov', h1, h2, h3, H1⟩ := ls_reb1 c r s (nI m) kb ab vb so 40 0 rfl ok oa ov ls_K0 ls_K0 ls_K0
  obtain ⟨kb', ab', vb', g1, g2, g3, H2⟩ := ls_reb2 c r s m hm so ok' oa' ov' m 0 (by omega) kb ab vb ls_Q0 ls_Q0 ls_Q0
  refine ⟨kb', ab', vb', ok', oa', ov', ls_QK g1 h1, ls_QK g2 h2, ls_QK g3 h3, fun post M hM h => ?_⟩
  subst hM
  unfold wpY_rebuild
  dsimp only
  exact ⟨_, H1 post ⟨_, H2 post h⟩⟩

/-- insert's source: below p the cell itself, above p the one before -/
def ls_Pi (p j : Nat) (x : Int32) : Prop := (j < p → x = nI j) ∧ (p < j → x = nI (j - 1))
theorem ls_insL (c r : Int32) (n p : Nat) (hn : n < 40) (k a : Int32) (hp : p ≤ n) (kb ab vb ok oa ov : Nat → Int32) : ∀ d i : Nat, i + d = n + 1 → ∀ so : Nat → Int32, (∀ j, j < i → ls_Pi p j (so j)) →
    ∃ so' : Nat → Int32, (∀ j, j < n + 1 → ls_Pi p j (so' j)) ∧
      ∀ post : Int32 → SY → Prop, wY_insert_119 post (nI p) k a c r (nI n) kb ab vb so' ok oa ov → wY_insert_75 post (nI p) k a c r (nI n) (d + 1) (nI i) kb ab vb so ok oa ov := by
  intro d
  induction d with
  | zero =>
    intro i hi so hs
    have e : i = n + 1 := by omega
    subst e
    exact ⟨so, hs, fun post h => br_t (nI_lt (by omega) (by omega)) h⟩
  | succ d ih =>
    intro i hi so hs
    have h : ¬ nI n < nI i := nI_nlt (by omega) (by omega)
    have h40 : i < 40 := by omega
    by_cases e : p ≤ i
    · obtain ⟨so', g, H⟩ := ih (i + 1) (by omega) (upd so (nI i).toNatClampNeg (nI i - 1)) (ls_so (ls_cl h40) hs ⟨fun z => absurd z (by omega), fun z => ls_p1 (by omega)⟩)
      exact ⟨so', g, fun post hq => br_f h (br_f (ls_n40 h40) (br_t (nI_le e (by omega)) ⟨ls_in h40, nm_e (nm_r (nI_1 i) (H post hq))⟩))⟩
    · obtain ⟨so', g, H⟩ := ih (i + 1) (by omega) (upd so (nI i).toNatClampNeg (nI i)) (ls_so (ls_cl h40) hs ⟨fun z => rfl, fun z => absurd z (by omega)⟩)
      exact ⟨so', g, fun post hq => br_f h (br_f (ls_n40 h40) (br_f (nI_ge (by omega) (by omega)) ⟨ls_in h40, nm_e (nm_r (nI_1 i) (H post hq))⟩))⟩

def ls_sR (p j : Nat) : Nat := if j < p then j else j + 1
theorem ls_rmY (c r : Int32) (n m p : Nat) (hn : n ≤ 40) (hm : m + 1 = n) (k : Int32) (hp : p < n) (kb ab vb ok oa ov : Nat → Int32) : ∀ d i : Nat, i + d = m → ∀ so : Nat → Int32, (∀ j, j < i → so j = nI (ls_sR p j)) →
    ∃ so' : Nat → Int32, (∀ j, j < m → so' j = nI (ls_sR p j)) ∧
      ∀ post : Int32 → SY → Prop, wY_remove_69 post k c r (nI n) kb ab vb so' ok oa ov → wY_remove_29 post (nI p) k c r (nI n) (d + 1) (nI i) kb ab vb so ok oa ov := by
  have hs1 : nI n - 1 = nI m := by rw [ls_p1 (by omega)]; exact congrArg nI (by omega)
  intro d
  induction d with
  | zero =>
    intro i hi so hs
    have e : i = m := by omega
    subst e
    exact ⟨so, hs, fun post h => br_t (by rw [hs1]; exact nI_le (Nat.le_refl _) (by omega)) h⟩
  | succ d ih =>
    intro i hi so hs
    have h : ¬ nI n - 1 ≤ nI i := by rw [hs1]; exact nI_ge (by omega) (by omega)
    have h40 : i < 40 := by omega
    by_cases e : p ≤ i
    · obtain ⟨so', g, H⟩ := ih (i + 1) (by omega) (upd so (nI i).toNatClampNeg (nI i + 1)) (ls_so (P := fun j x => x = nI (ls_sR p j)) (ls_cl h40) hs (by unfold ls_sR; rw [if_neg (by omega)]; exact nI_1 i))
      exact ⟨so', g, fun post hq => br_f h (br_f (ls_n40 h40) (br_t (nI_le e (by omega)) ⟨ls_in h40, nm_e (nm_r (nI_1 i) (H post hq))⟩))⟩
    · obtain ⟨so', g, H⟩ := ih (i + 1) (by omega) (upd so (nI i).toNatClampNeg (nI i)) (ls_so (P := fun j x => x = nI (ls_sR p j)) (ls_cl h40) hs (by unfold ls_sR; rw [if_pos (by omega)]))
      exact ⟨so', g, fun post hq => br_f h (br_f (ls_n40 h40) (br_f (nI_ge (by omega) (by omega)) ⟨ls_in h40, nm_e (nm_r (nI_1 i) (H post hq))⟩))⟩

def ls_sV (f t j : Nat) : Nat := if f ≤ j ∧ j < t then f + (t - 1 - j) else j
theorem ls_rvY (c r : Int32) (n f t : Nat) (hn : n ≤ 40) (hft : f ≤ t) (ht : t ≤ n) (kb ab vb ok oa ov : Nat → Int32) : ∀ d i : Nat, i + d = n → ∀ so : Nat → Int32, (∀ j, j < i → so j = nI (ls_sV f t j)) →
    ∃ so' : Nat → Int32, (∀ j, j < n → so' j = nI (ls_sV f t j)) ∧
      ∀ post : Int32 → SY → Prop, wY_reverse_60 post (nI f) (nI t) c r (nI n) kb ab vb so' ok oa ov → wY_reverse_13 post (nI f) (nI t) c r (nI n) (d + 1) (nI i) kb ab vb so ok oa ov := by
  intro d
  induction d with
  | zero =>
    intro i hi so hs
    have e : i = n := by omega
    subst e
    exact ⟨so, hs, fun post h => br_t (nI_le (Nat.le_refl _) (by omega)) h⟩
  | succ d ih =>
    intro i hi so hs
    have h : ¬ nI n ≤ nI i := nI_ge (by omega) (by omega)
    have h40 : i < 40 := by omega
    by_cases e : i < f
    · obtain ⟨so', g, H⟩ := ih (i + 1) (by omega) (upd so (nI i).toNatClampNeg (nI i)) (ls_so (P := fun j x => x = nI (ls_sV f t j)) (ls_cl h40) hs (by unfold ls_sV; rw [if_neg (by omega)]))
      exact ⟨so', g, fun post hq => br_f h (br_f (ls_n40 h40) (br_t (nI_lt e (by omega)) ⟨ls_in h40, nm_e (nm_r (nI_1 i) (H post hq))⟩))⟩
    · by_cases e2 : t ≤ i
      · obtain ⟨so', g, H⟩ := ih (i + 1) (by omega) (upd so (nI i).toNatClampNeg (nI i)) (ls_so (P := fun j x => x = nI (ls_sV f t j)) (ls_cl h40) hs (by unfold ls_sV; rw [if_neg (by omega)]))
        exact ⟨so', g, fun post hq => br_f h (br_f (ls_n40 h40) (br_f (nI_nlt (by omega) (by omega)) (br_t (nI_le e2 (by omega)) ⟨ls_in h40, nm_e (nm_r (nI_1 i) (H post hq))⟩)))⟩
      · obtain ⟨so', g, H⟩ := ih (i + 1) (by omega) (upd so (nI i).toNatClampNeg (nI f + (nI t - 1 - nI i))) (ls_so (P := fun j x => x = nI (ls_sV f t j)) (ls_cl h40) hs (by
          unfold ls_sV; rw [if_pos (by omega), ls_p1 (by omega), pk_sub (by omega), nI_add]))
        exact ⟨so', g, fun post hq => br_f h (br_f (ls_n40 h40) (br_f (nI_nlt (by omega) (by omega)) (br_f (nI_ge (by omega) (by omega)) ⟨ls_in h40, nm_e (nm_r (nI_1 i) (H post hq))⟩)))⟩

def ls_sC (f l p j : Nat) : Nat := if j < p then j else if j < p + l then f + (j - p) else j - l
theorem ls_coY (c r : Int32) (n f l p : Nat) (hn : n + l ≤ 40) (hp : p ≤ n) (kb ab vb ok oa ov : Nat → Int32) : ∀ d i : Nat, i + d = n + l → ∀ so : Nat → Int32, (∀ j, j < i → so j = nI (ls_sC f l p j)) →
    ∃ so' : Nat → Int32, (∀ j, j < n + l → so' j = nI (ls_sC f l p j)) ∧
      ∀ post : Int32 → SY → Prop, wY_copy_131 post (nI l) c r (nI n) kb ab vb so' ok oa ov → wY_copy_51 post (nI f) (nI p) (nI l) c r (nI n) (d + 1) (nI i) kb ab vb so ok oa ov := by
  intro d
  induction d with
  | zero =>
    intro i hi so hs
    have e : i = n + l := by omega
    subst e
    exact ⟨so, hs, fun post h => br_t (by rw [nI_add]; exact nI_le (Nat.le_refl _) (by omega)) h⟩
  | succ d ih =>
    intro i hi so hs
    have h : ¬ nI n + nI l ≤ nI i := by rw [nI_add]; exact nI_ge (by omega) (by omega)
    have h40 : i < 40 := by omega
    by_cases e : p ≤ i
    · by_cases e2 : p + l ≤ i
      · obtain ⟨so', g, H⟩ := ih (i + 1) (by omega) (upd so (nI i).toNatClampNeg (nI i - nI l)) (ls_so (P := fun j x => x = nI (ls_sC f l p j)) (ls_cl h40) hs (by
          unfold ls_sC; rw [if_neg (by omega), if_neg (by omega), pk_sub (by omega)]))
        exact ⟨so', g, fun post hq => br_f h (br_f (ls_n40 h40) (br_t (nI_le e (by omega)) (br_t (by rw [nI_add]; exact nI_le e2 (by omega)) ⟨ls_in h40, nm_e (nm_r (nI_1 i) (H post hq))⟩)))⟩
      · obtain ⟨so', g, H⟩ := ih (i + 1) (by omega) (upd so (nI i).toNatClampNeg (nI f + (nI i - nI p))) (ls_so (P := fun j x => x = nI (ls_sC f l p j)) (ls_cl h40) hs (by
          unfold ls_sC; rw [if_neg (by omega), if_pos (by omega), pk_sub (by omega), nI_add]))
        exact ⟨so', g, fun post hq => br_f h (br_f (ls_n40 h40) (br_t (nI_le e (by omega)) (br_f (by rw [nI_add]; exact nI_ge (by omega) (by omega)) ⟨ls_in h40, nm_e (nm_r (nI_1 i) (H post hq))⟩)))⟩
    · obtain ⟨so', g, H⟩ := ih (i + 1) (by omega) (upd so (nI i).toNatClampNeg (nI i)) (ls_so (P := fun j x => x = nI (ls_sC f l p j)) (ls_cl h40) hs (by
          unfold ls_sC; rw [if_pos (by omega)]))
      exact ⟨so', g, fun post hq => br_f h (br_f (ls_n40 h40) (br_f (nI_ge (by omega) (by omega)) ⟨ls_in h40, nm_e (nm_r (nI_1 i) (H post hq))⟩))⟩

def ls_sO (f l o : Nat) : Nat := if o < f then o else o + l
def ls_sM (f l p j : Nat) : Nat := if p ≤ j ∧ j < p + l then f + (j - p) else ls_sO f l (if j < p then j else j - l)
theorem ls_mv100 {post : Int32 → SY → Prop} {J : Int32 → (Nat → Int32) → (Nat → Int32) → (Nat → Int32) → (Nat → Int32) → (Nat → Int32) → (Nat → Int32) → (Nat → Int32) → Prop}
    {x3 c r s z0 : Int32} {kb ab vb so ok oa ov : Nat → Int32} (f l i o : Nat) (hi : i < 40) (ho : o ≤ 40) (hf : f ≤ 40) (hz : z0 = nI o)
    (h : J (nI (i + 1)) kb ab vb (upd so (nI i).toNatClampNeg (nI (ls_sO f l o))) ok oa ov) : wY_move_100 post J (nI f) x3 (nI l) (nI i) z0 c r s kb ab vb so ok oa ov := by
  subst hz
  unfold ls_sO at h
  by_cases e : f ≤ o
  · rw [if_neg (by omega)] at h
    exact br_t (nI_le e (by omega)) ⟨ls_in hi, nm_r (congrArg (upd so (nI i).toNatClampNeg) (nI_add o l)) (nm_r (nI_1 i) h)⟩
  · rw [if_pos (by omega)] at h
    exact br_f (nI_ge (by omega) (by omega)) ⟨ls_in hi, nm_e (nm_r (nI_1 i) h)⟩
theorem ls_mv84 {post : Int32 → SY → Prop} {J : Int32 → (Nat → Int32) → (Nat → Int32) → (Nat → Int32) → (Nat → Int32) → (Nat → Int32) → (Nat → Int32) → (Nat → Int32) → Prop}
    {c r s : Int32} {kb ab vb so ok oa ov : Nat → Int32} (f l p i : Nat) (hi : i < 40) (hp : p ≤ 40) (hf : f ≤ 40) (hl : p ≤ i → l ≤ i)
    (h : J (nI (i + 1)) kb ab vb (upd so (nI i).toNatClampNeg (nI (ls_sO f l (if i < p then i else i - l)))) ok oa ov) : wY_move_84 post J (nI f) (nI p) (nI l) (nI i) c r s kb ab vb so ok oa ov := by
  by_cases e : p ≤ i
  · rw [if_neg (by omega)] at h
    exact br_t (nI_le e (by omega)) (ls_mv100 f l i (i - l) hi (by omega) hf (pk_sub (hl e)) h)
  · rw [if_pos (by omega)] at h
    exact br_f (nI_ge (by omega) (by omega)) (ls_mv100 f l i i hi (by omega) hf rfl h)
theorem ls_mvY (c r : Int32) (n f l p : Nat) (hn : n ≤ 40) (hf : f + l ≤ n) (hp : p + l ≤ n) (kb ab vb ok oa ov : Nat → Int32) : ∀ d i : Nat, i + d = n → ∀ so : Nat → Int32, (∀ j, j < i → so j = nI (ls_sM f l p j)) →
    ∃ so' : Nat → Int32, (∀ j, j < n → so' j = nI (ls_sM f l p j)) ∧
      ∀ post : Int32 → SY → Prop, wY_move_131 post (nI l) c r (nI n) kb ab vb so' ok oa ov → wY_move_37 post (nI f) (nI p) (nI l) c r (nI n) (d + 1) (nI i) kb ab vb so ok oa ov := by
  intro d
  induction d with
  | zero =>
    intro i hi so hs
    have e : i = n := by omega
    subst e
    exact ⟨so, hs, fun post h => br_t (nI_le (Nat.le_refl _) (by omega)) h⟩
  | succ d ih =>
    intro i hi so hs
    have h : ¬ nI n ≤ nI i := nI_ge (by omega) (by omega)
    have h40 : i < 40 := by omega
    obtain ⟨so', g, H⟩ := ih (i + 1) (by omega) (upd so (nI i).toNatClampNeg (nI (ls_sM f l p i))) (ls_so (P := fun j x => x = nI (ls_sM f l p j)) (ls_cl h40) hs rfl)
    refine ⟨so', g, fun post hq => br_f h (br_f (ls_n40 h40) ?_)⟩
    have H' := H post hq
    by_cases e : i < p
    · have e' : ls_sM f l p i = ls_sO f l (if i < p then i else i - l) := if_neg (by omega)
      rw [e'] at H'
      exact br_t (nI_lt e (by omega)) (ls_mv84 f l p i h40 (by omega) (by omega) (fun _ => by omega) H')
    · by_cases e2 : p + l ≤ i
      · have e' : ls_sM f l p i = ls_sO f l (if i < p then i else i - l) := if_neg (by omega)
        rw [e'] at H'
        exact br_f (nI_nlt (by omega) (by omega)) (br_t (by rw [nI_add]; exact nI_le e2 (by omega)) (ls_mv84 f l p i h40 (by omega) (by omega) (fun _ => by omega) H'))
      · have e' : ls_sM f l p i = f + (i - p) := if_pos (by omega)
        rw [e'] at H'
        exact br_f (nI_nlt (by omega) (by omega)) (br_f (by rw [nI_add]; exact nI_ge (by omega) (by omega)) ⟨ls_in h40, nm_r (show upd so (nI i).toNatClampNeg (nI f + (nI i - nI p)) = upd so (nI i).toNatClampNeg (nI (f + (i - p))) by rw [pk_sub (by omega), nI_add]) (nm_r (nI_1 i) H')⟩)
