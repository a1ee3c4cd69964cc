/-! one answer a walk: whatever post holds of it, both sides' walks give -/
theorem cf_cnt (a b t : Nat → Int32) (p : Int32) (hp : vp_in p 16) : ∀ d j : Nat, j + d = 22 → ∀ c : Int32, ∃ r : Int32, (∀ post : Int32 → Prop, post r → wX_countTurned_4 post p a b t (d + 1) c (nI j)) ∧ (∀ post : Int32 → Prop, post r → wY_turns_4 post p a b t (d + 1) c (nI j)) := by
  intro d
  induction d with
  | zero =>
    intro j hj c
    have h : (22 : Int32) ≤ nI j := nI_le (a := 22) (by omega) (by omega)
    exact ⟨c, fun _ hq => br_t h hq, fun _ hq => br_t h hq⟩
  | succ d ih =>
    intro j hj c
    have h : ¬ (22 : Int32) ≤ nI j := nI_ge (b := 22) (by omega) (by decide)
    obtain ⟨r, hX, hY⟩ := ih (j + 1) (by omega) (c + ((t p.toNatClampNeg >>> (nI j &&& 31)) &&& 1))
    refine ⟨r, fun post hq => br_f h ⟨hp, fun y ey z ez => ?_⟩, fun post hq => br_f h ⟨hp, fun y ey z ez => ?_⟩⟩
    · rw [ey, ez, nI_1]; exact hX post hq
    · rw [ey, ez, nI_1]; exact hY post hq
theorem cf_count (a b t : Nat → Int32) (p : Int32) (hp : vp_in p 16) : ∃ r : Int32, (∀ post : Int32 → Prop, post r → wpX_countTurned post (a, b, t) p) ∧ (∀ post : Int32 → Prop, post r → wpY_turns post (a, b, t) p) := by
  obtain ⟨r, hX, hY⟩ := cf_cnt a b t p hp 22 0 rfl 0
  rw [nI_0] at hX hY
  exact ⟨r, fun post hq => ⟨_, hX post hq⟩, fun post hq => ⟨_, hY post hq⟩⟩
theorem cf_read (a b t : Nat → Int32) (p : Int32) : ∃ r : Int32, (r < 0 ∨ vp_in p 16) ∧ (∀ post : Int32 → Prop, post r → wpX_read post (a, b, t) p) ∧ (∀ post : Int32 → Prop, post r → wpY_read post (a, b, t) p) := by
  rcases cf_sec p with ⟨hp, hX, hY⟩ | ⟨hX, hY⟩
  · by_cases z : a p.toNatClampNeg = 0
    · refine ⟨-2, Or.inr hp, fun post hq => ?_, fun post hq => ?_⟩
      · unfold wpX_read; dsimp only
        exact hX _ (br_f (by decide) ⟨hp, br_t z hq⟩)
      · unfold wpY_read; dsimp only
        exact hY _ (br_t rfl ⟨hp, br_t z hq⟩)
    · obtain ⟨c, cX, cY⟩ := cf_count a b t p hp
      by_cases e : c = 2
      · refine ⟨-3, Or.inr hp, fun post hq => ?_, fun post hq => ?_⟩
        · unfold wpX_read; dsimp only
          exact hX _ (br_f (by decide) ⟨hp, br_f z (cX _ (br_t e hq))⟩)
        · unfold wpY_read; dsimp only
          exact hY _ (br_t rfl ⟨hp, br_f z (cY _ (br_t e hq))⟩)
      · refine ⟨b p.toNatClampNeg, Or.inr hp, fun post hq => ?_, fun post hq => ?_⟩
        · unfold wpX_read; dsimp only
          exact hX _ (br_f (by decide) ⟨hp, br_f z (cX _ (br_f e ⟨hp, hq⟩))⟩)
        · unfold wpY_read; dsimp only
          exact hY _ (br_t rfl ⟨hp, br_f z (cY _ (br_f e ⟨hp, hq⟩))⟩)
  · refine ⟨-1, Or.inl (by decide), fun post hq => ?_, fun post hq => ?_⟩
    · unfold wpX_read; dsimp only
      exact hX _ (br_t rfl hq)
    · unfold wpY_read; dsimp only
      exact hY _ (br_f (by decide) hq)
theorem cf_written (a b t : Nat → Int32) : ∀ d j : Nat, j + d = 16 → ∀ c : Int32, ∃ r : Int32, (∀ post : Int32 → Prop, post r → wX_written_4 post a b t (d + 1) c (nI j)) ∧ (∀ post : Int32 → Prop, post r → wY_written_4 post a b t (d + 1) c (nI j)) := by
  intro d
  induction d with
  | zero =>
    intro j hj c
    have h : (16 : Int32) ≤ nI j := nI_le (a := 16) (by omega) (by omega)
    exact ⟨c, fun _ hq => br_t h hq, fun _ hq => br_t h hq⟩
  | succ d ih =>
    intro j hj c
    have h : ¬ (16 : Int32) ≤ nI j := nI_ge (b := 16) (by omega) (by decide)
    have hi : vp_in (nI j) 16 := vp_in_nI (by omega) (by decide)
    by_cases z : a (nI j).toNatClampNeg = 0
    · obtain ⟨r, hX, hY⟩ := ih (j + 1) (by omega) c
      refine ⟨r, fun post hq => br_f h ⟨hi, br_t z fun y ey => ?_⟩, fun post hq => br_f h ⟨hi, br_t z fun y ey => ?_⟩⟩
      · rw [ey, nI_1]; exact hX post hq
      · rw [ey, nI_1]; exact hY post hq
    · obtain ⟨r, hX, hY⟩ := ih (j + 1) (by omega) (c + 1)
      refine ⟨r, fun post hq => br_f h ⟨hi, br_f z fun y ey w ew => ?_⟩, fun post hq => br_f h ⟨hi, br_f z fun y ey w ew => ?_⟩⟩
      · rw [ey, ew, nI_1]; exact hX post hq
      · rw [ey, ew, nI_1]; exact hY post hq
theorem cf_damaged (a b t : Nat → Int32) : ∀ d j : Nat, j + d = 16 → ∀ c : Int32, ∃ r : Int32, (∀ post : Int32 → Prop, post r → wX_damaged_4 post a b t (d + 1) c (nI j)) ∧ (∀ post : Int32 → Prop, post r → wY_damaged_4 post a b t (d + 1) c (nI j)) := by
  intro d
  induction d with
  | zero =>
    intro j hj c
    have h : (16 : Int32) ≤ nI j := nI_le (a := 16) (by omega) (by omega)
    exact ⟨c, fun _ hq => br_t h hq, fun _ hq => br_t h hq⟩
  | succ d ih =>
    intro j hj c
    have h : ¬ (16 : Int32) ≤ nI j := nI_ge (b := 16) (by omega) (by decide)
    obtain ⟨q, _, qX, qY⟩ := cf_read a b t (nI j)
    by_cases z : q = -3
    · obtain ⟨r, hX, hY⟩ := ih (j + 1) (by omega) (c + 1)
      refine ⟨r, fun post hq => br_f h (qX _ (br_t z fun y ey w ew => ?_)), fun post hq => br_f h (qY _ (br_t z fun y ey w ew => ?_))⟩
      · rw [ey, ew, nI_1]; exact hX post hq
      · rw [ey, ew, nI_1]; exact hY post hq
    · obtain ⟨r, hX, hY⟩ := ih (j + 1) (by omega) c
      refine ⟨r, fun post hq => br_f h (qX _ (br_f z fun y ey => ?_)), fun post hq => br_f h (qY _ (br_f z fun y ey => ?_))⟩
      · rw [ey, nI_1]; exact hX post hq
      · rw [ey, nI_1]; exact hY post hq
theorem cf_sum (a b t : Nat → Int32) : ∀ d j : Nat, j + d = 16 → ∀ c : Int32, ∃ r : Int32, (∀ post : Int32 → Prop, post r → wX_sum_4 post a b t (d + 1) c (nI j)) ∧ (∀ post : Int32 → Prop, post r → wY_sum_4 post a b t (d + 1) c (nI j)) := by
  intro d
  induction d with
  | zero =>
    intro j hj c
    have h : (16 : Int32) ≤ nI j := nI_le (a := 16) (by omega) (by omega)
    exact ⟨c, fun _ hq => br_t h hq, fun _ hq => br_t h hq⟩
  | succ d ih =>
    intro j hj c
    have h : ¬ (16 : Int32) ≤ nI j := nI_ge (b := 16) (by omega) (by decide)
    obtain ⟨q, _, qX, qY⟩ := cf_read a b t (nI j)
    by_cases z : q < 0
    · obtain ⟨r, hX, hY⟩ := ih (j + 1) (by omega) c
      refine ⟨r, fun post hq => br_f h (qX _ (br_t z (br_t rfl fun y ey => ?_))), fun post hq => br_f h (qY _ (br_t z fun y ey => ?_))⟩
      · rw [ey, nI_1]; exact hX post hq
      · rw [ey, nI_1]; exact hY post hq
    · obtain ⟨r, hX, hY⟩ := ih (j + 1) (by omega) (c + q)
      refine ⟨r, fun post hq => br_f h (qX _ (br_f z (br_f (by decide) fun y ey w ew => ?_))), fun post hq => br_f h (qY _ (br_f z fun y ey w ew => ?_))⟩
      · rw [ey, ew, nI_1]; exact hX post hq
      · rw [ey, ew, nI_1]; exact hY post hq
theorem cf_repair (a b t : Nat → Int32) (p : Int32) : ∃ (r : Int32) (s : SX), (∀ post : Int32 → SX → Prop, post r s → wpX_repair post (a, b, t) p) ∧ (∀ post : Int32 → SY → Prop, post r s → wpY_repair post (a, b, t) p) := by
  obtain ⟨r, hr, qX, qY⟩ := cf_read a b t p
  by_cases z : r < 0
  · refine ⟨r, (a, b, t), fun post hq => ?_, fun post hq => ?_⟩
    · unfold wpX_repair; dsimp only
      exact qX _ (br_t z (br_t rfl hq))
    · unfold wpY_repair; dsimp only
      exact qY _ (br_t z hq)
  · have hp : vp_in p 16 := hr.resolve_left z
    refine ⟨r, (a, b, upd t p.toNatClampNeg 0), fun post hq => ?_, fun post hq => ?_⟩
    · unfold wpX_repair; dsimp only
      exact qX _ (br_f z (br_f (by decide) ⟨hp, nm_e hq⟩))
    · unfold wpY_repair; dsimp only
      exact qY _ (br_f z ⟨hp, nm_e hq⟩)
