section
/-! shift counts, one bit (s_l, nf_sh, nf_tp out of the rows to paste) -/
theorem s_l : ∀ n, n < 32 → ((nI n &&& 31).toBitVec.smod 32).toNat = n := by decide +kernel
theorem nf_sh : ∀ l, l < 32 → ((1 : Int32) <<< (nI l &&& 31)).toBitVec = BitVec.twoPow 32 l := by decide +kernel
theorem nf_tp : ∀ l, l < 32 → BitVec.twoPow 32 l ≠ 0#32 := by decide +kernel
/-- the reference's test of a bit by a shift is the class's test by a mask -/
theorem cf_bt (m : Int32) (l : Nat) (hl : l < 32) : ((m >>> (nI l &&& 31)) &&& 1) = 0 ↔ (m &&& ((1 : Int32) <<< (nI l &&& 31))) = 0 := by
  have e : (m >>> (nI l &&& 31)).toBitVec = m.toBitVec.sshiftRight l := by
    rw [Int32.toBitVec_shiftRight]
    show m.toBitVec.sshiftRight ((nI l &&& 31).toBitVec.smod 32).toNat = _
    rw [s_l l hl]
  have g : (m.toBitVec.sshiftRight l).getLsbD 0 = m.toBitVec.getLsbD l := by
    rw [BitVec.getLsbD_sshiftRight, Nat.add_zero, if_pos hl]
    rfl
  rw [← Int32.toBitVec_inj, ← Int32.toBitVec_inj, Int32.toBitVec_and, Int32.toBitVec_and, nf_sh l hl, e, BitVec.and_twoPow]
  show (m.toBitVec.sshiftRight l &&& 1#32) = 0#32 ↔ _ = 0#32
  rw [BitVec.and_one_eq_setWidth_ofBool_getLsbD, g]
  cases hb : m.toBitVec.getLsbD l
  · exact ⟨fun _ => by simp, fun _ => by decide⟩
  · exact ⟨fun z => absurd z (by decide), fun z => absurd ((if_pos rfl).symm.trans z) (nf_tp l hl)⟩
/-- the two tests of a sector's number -/
theorem cf_sec (p : Int32) : (vp_in p 16 ∧ (∀ post : Int32 → Prop, post 1 → wpX_isSector post p) ∧ (∀ post : Int32 → Prop, post 0 → wpY_bad post p)) ∨ ((∀ post : Int32 → Prop, post 0 → wpX_isSector post p) ∧ (∀ post : Int32 → Prop, post 1 → wpY_bad post p)) := by
  by_cases h0 : p < 0
  · exact Or.inr ⟨fun _ h => br_t h0 h, fun _ h => br_t h0 h⟩
  · obtain ⟨j, hj, rfl⟩ := nI_of h0
    by_cases h : j < 16
    · have h1 : ¬ (16 : Int32) ≤ nI j := nI_ge (b := 16) h (by decide)
      have h2 : nI j ≤ (15 : Int32) := nI_le (b := 15) (by omega) (by decide)
      exact Or.inl ⟨vp_in_nI h (by decide), fun _ q => br_f h0 (br_f h1 q), fun _ q => br_f h0 (br_t h2 q)⟩
    · have h1 : (16 : Int32) ≤ nI j := nI_le (a := 16) (by omega) hj
      have h2 : ¬ nI j ≤ (15 : Int32) := nI_ge (a := 15) (by omega) hj
      exact Or.inr ⟨fun _ q => br_f h0 (br_t h1 q), fun _ q => br_f h0 (br_f h2 q)⟩
/-- the two tests of a bit's number -/
theorem cf_isBit (p : Int32) : (∃ l : Nat, l < 22 ∧ p = nI l ∧ ¬ p < 0 ∧ p ≤ 21 ∧ (∀ post : Int32 → Prop, post 1 → wpX_isBit post p)) ∨ ((∀ post : Int32 → Prop, post 0 → wpX_isBit post p) ∧ (∀ G B : Prop, B → ((p < 0 → B) ∧ (¬ p < 0 → ((p ≤ 21 → G) ∧ (¬ p ≤ 21 → B)))))) := by
  by_cases h0 : p < 0
  · exact Or.inr ⟨fun _ h => br_t h0 h, fun _ _ h => br_t h0 h⟩
  · obtain ⟨j, hj, rfl⟩ := nI_of h0
    by_cases h : j < 22
    · have h1 : ¬ (22 : Int32) ≤ nI j := nI_ge (b := 22) h (by decide)
      have h2 : nI j ≤ (21 : Int32) := nI_le (b := 21) (by omega) (by decide)
      exact Or.inl ⟨j, h, rfl, h0, h2, fun _ q => br_f h0 (br_f h1 q)⟩
    · have h1 : (22 : Int32) ≤ nI j := nI_le (a := 22) (by omega) hj
      have h2 : ¬ nI j ≤ (21 : Int32) := nI_ge (a := 21) (by omega) hj
      exact Or.inr ⟨fun _ q => br_f h0 (br_t h1 q), fun _ _ q => br_f h0 (br_f h2 q)⟩
end
section
/-! one answer a walk: whatever post holds of it, both sides' walks give -/
theorem cf_cnt (a b t : Nat → Int32) (p : Int32) (hp : vp_in p 16) : ∀ d j : Nat, j + d = 22 → ∀ c : Int32, ∃ r : Int32, (∀ post : Int32 → Prop, post r → wX_countTurned_4 post p a b t (d + 1) c (nI j)) ∧ (∀ post : Int32 → Prop, post r → wY_turns_4 post p a b t (d + 1) c (nI j)) := by
  intro d
  induction d with
  | zero =>
    intro j hj c
    have h : (22 : Int32) ≤ nI j := nI_le (a := 22) (by omega) (by omega)
    exact ⟨c, fun _ hq => br_t h hq, fun _ hq => br_t h hq⟩
  | succ d ih =>
    intro j hj c
    have h : ¬ (22 : Int32) ≤ nI j := nI_ge (b := 22) (by omega) (by decide)
    obtain ⟨r, hX, hY⟩ := ih (j + 1) (by omega) (c + ((t p.toNatClampNeg >>> (nI j &&& 31)) &&& 1))
    refine ⟨r, fun post hq => br_f h ⟨hp, fun y ey z ez => ?_⟩, fun post hq => br_f h ⟨hp, fun y ey z ez => ?_⟩⟩
    · rw [ey, ez, nI_1]; exact hX post hq
    · rw [ey, ez, nI_1]; exact hY post hq
theorem cf_count (a b t : Nat → Int32) (p : Int32) (hp : vp_in p 16) : ∃ r : Int32, (∀ post : Int32 → Prop, post r → wpX_countTurned post (a, b, t) p) ∧ (∀ post : Int32 → Prop, post r → wpY_turns post (a, b, t) p) := by
  obtain ⟨r, hX, hY⟩ := cf_cnt a b t p hp 22 0 rfl 0
  rw [nI_0] at hX hY
  exact ⟨r, fun post hq => ⟨_, hX post hq⟩, fun post hq => ⟨_, hY post hq⟩⟩
theorem cf_read (a b t : Nat → Int32) (p : Int32) : ∃ r : Int32, (r < 0 ∨ vp_in p 16) ∧ (∀ post : Int32 → Prop, post r → wpX_read post (a, b, t) p) ∧ (∀ post : Int32 → Prop, post r → wpY_read post (a, b, t) p) := by
  rcases cf_sec p with ⟨hp, hX, hY⟩ | ⟨hX, hY⟩
  · by_cases z : a p.toNatClampNeg = 0
    · refine ⟨-2, Or.inr hp, fun post hq => ?_, fun post hq => ?_⟩
      · unfold wpX_read; dsimp only
        exact hX _ (br_f (by decide) ⟨hp, br_t z hq⟩)
      · unfold wpY_read; dsimp only
        exact hY _ (br_t rfl ⟨hp, br_t z hq⟩)
    · obtain ⟨c, cX, cY⟩ := cf_count a b t p hp
      by_cases e : c = 2
      · refine ⟨-3, Or.inr hp, fun post hq => ?_, fun post hq => ?_⟩
        · unfold wpX_read; dsimp only
          exact hX _ (br_f (by decide) ⟨hp, br_f z (cX _ (br_t e hq))⟩)
        · unfold wpY_read; dsimp only
          exact hY _ (br_t rfl ⟨hp, br_f z (cY _ (br_t e hq))⟩)
      · refine ⟨b p.toNatClampNeg, Or.inr hp, fun post hq => ?_, fun post hq => ?_⟩
        · unfold wpX_read; dsimp only
          exact hX _ (br_f (by decide) ⟨hp, br_f z (cX _ (br_f e ⟨hp, hq⟩))⟩)
        · unfold wpY_read; dsimp only
          exact hY _ (br_t rfl ⟨hp, br_f z (cY _ (br_f e ⟨hp, hq⟩))⟩)
  · refine ⟨-1, Or.inl (by decide), fun post hq => ?_, fun post hq => ?_⟩
    · unfold wpX_read; dsimp only
      exact hX _ (br_t rfl hq)
    · unfold wpY_read; dsimp only
      exact hY _ (br_f (by decide) hq)
theorem cf_written (a b t : Nat → Int32) : ∀ d j : Nat, j + d = 16 → ∀ c : Int32, ∃ r : Int32, (∀ post : Int32 → Prop, post r → wX_written_4 post a b t (d + 1) c (nI j)) ∧ (∀ post : Int32 → Prop, post r → wY_written_4 post a b t (d + 1) c (nI j)) := by
  intro d
  induction d with
  | zero =>
    intro j hj c
    have h : (16 : Int32) ≤ nI j := nI_le (a := 16) (by omega) (by omega)
    exact ⟨c, fun _ hq => br_t h hq, fun _ hq => br_t h hq⟩
  | succ d ih =>
    intro j hj c
    have h : ¬ (16 : Int32) ≤ nI j := nI_ge (b := 16) (by omega) (by decide)
    have hi : vp_in (nI j) 16 := vp_in_nI (by omega) (by decide)
    by_cases z : a (nI j).toNatClampNeg = 0
    · obtain ⟨r, hX, hY⟩ := ih (j + 1) (by omega) c
      refine ⟨r, fun post hq => br_f h ⟨hi, br_t z fun y ey => ?_⟩, fun post hq => br_f h ⟨hi, br_t z fun y ey => ?_⟩⟩
      · rw [ey, nI_1]; exact hX post hq
      · rw [ey, nI_1]; exact hY post hq
    · obtain ⟨r, hX, hY⟩ := ih (j + 1) (by omega) (c + 1)
      refine ⟨r, fun post hq => br_f h ⟨hi, br_f z fun y ey w ew => ?_⟩, fun post hq => br_f h ⟨hi, br_f z fun y ey w ew => ?_⟩⟩
      · rw [ey, ew, nI_1]; exact hX post hq
      · rw [ey, ew, nI_1]; exact hY post hq
theorem cf_damaged (a b t : Nat → Int32) : ∀ d j : Nat, j + d = 16 → ∀ c : Int32, ∃ r : Int32, (∀ post : Int32 → Prop, post r → wX_damaged_4 post a b t (d + 1) c (nI j)) ∧ (∀ post : Int32 → Prop, post r → wY_damaged_4 post a b t (d + 1) c (nI j)) := by
  intro d
  induction d with
  | zero =>
    intro j hj c
    have h : (16 : Int32) ≤ nI j := nI_le (a := 16) (by omega) (by omega)
    exact ⟨c, fun _ hq => br_t h hq, fun _ hq => br_t h hq⟩
  | succ d ih =>
    intro j hj c
    have h : ¬ (16 : Int32) ≤ nI j := nI_ge (b := 16) (by omega) (by decide)
    obtain ⟨q, _, qX, qY⟩ := cf_read a b t (nI j)
    by_cases z : q = -3
    · obtain ⟨r, hX, hY⟩ := ih (j + 1) (by omega) (c + 1)
      refine ⟨r, fun post hq => br_f h (qX _ (br_t z fun y ey w ew => ?_)), fun post hq => br_f h (qY _ (br_t z fun y ey w ew => ?_))⟩
      · rw [ey, ew, nI_1]; exact hX post hq
      · rw [ey, ew, nI_1]; exact hY post hq
    · obtain ⟨r, hX, hY⟩ := ih (j + 1) (by omega) c
      refine ⟨r, fun post hq => br_f h (qX _ (br_f z fun y ey => ?_)), fun post hq => br_f h (qY _ (br_f z fun y ey => ?_))⟩
      · rw [ey, nI_1]; exact hX post hq
      · rw [ey, nI_1]; exact hY post hq
theorem cf_sum (a b t : Nat → Int32) : ∀ d j : Nat, j + d = 16 → ∀ c : Int32, ∃ r : Int32, (∀ post : Int32 → Prop, post r → wX_sum_4 post a b t (d + 1) c (nI j)) ∧ (∀ post : Int32 → Prop, post r → wY_sum_4 post a b t (d + 1) c (nI j)) := by
  intro d
  induction d with
  | zero =>
    intro j hj c
    have h : (16 : Int32) ≤ nI j := nI_le (a := 16) (by omega) (by omega)
    exact ⟨c, fun _ hq => br_t h hq, fun _ hq => br_t h hq⟩
  | succ d ih =>
    intro j hj c
    have h : ¬ (16 : Int32) ≤ nI j := nI_ge (b := 16) (by omega) (by decide)
    obtain ⟨q, _, qX, qY⟩ := cf_read a b t (nI j)
    by_cases z : q < 0
    · obtain ⟨r, hX, hY⟩ := ih (j + 1) (by omega) c
      refine ⟨r, fun post hq => br_f h (qX _ (br_t z (br_t rfl fun y ey => ?_))), fun post hq => br_f h (qY _ (br_t z fun y ey => ?_))⟩
      · rw [ey, nI_1]; exact hX post hq
      · rw [ey, nI_1]; exact hY post hq
    · obtain ⟨r, hX, hY⟩ := ih (j + 1) (by omega) (c + q)
      refine ⟨r, fun post hq => br_f h (qX _ (br_f z (br_f (by decide) fun y ey w ew => ?_))), fun post hq => br_f h (qY _ (br_f z fun y ey w ew => ?_))⟩
      · rw [ey, ew, nI_1]; exact hX post hq
      · rw [ey, ew, nI_1]; exact hY post hq
theorem cf_repair (a b t : Nat → Int32) (p : Int32) : ∃ (r : Int32) (s : SX), (∀ post : Int32 → SX → Prop, post r s → wpX_repair post (a, b, t) p) ∧ (∀ post : Int32 → SY → Prop, post r s → wpY_repair post (a, b, t) p) := by
  obtain ⟨r, hr, qX, qY⟩ := cf_read a b t p
  by_cases z : r < 0
  · refine ⟨r, (a, b, t), fun post hq => ?_, fun post hq => ?_⟩
    · unfold wpX_repair; dsimp only
      exact qX _ (br_t z (br_t rfl hq))
    · unfold wpY_repair; dsimp only
      exact qY _ (br_t z hq)
  · have hp : vp_in p 16 := hr.resolve_left z
    refine ⟨r, (a, b, upd t p.toNatClampNeg 0), fun post hq => ?_, fun post hq => ?_⟩
    · unfold wpX_repair; dsimp only
      exact qX _ (br_f z (br_f (by decide) ⟨hp, nm_e hq⟩))
    · unfold wpY_repair; dsimp only
      exact qY _ (br_f z ⟨hp, nm_e hq⟩)
end
section
theorem cf_x48 (a b t : Nat → Int32) (p x z c : Int32) (cX : ∀ post : Int32 → Prop, post c → wpX_countTurned post (a, b, t) p) (post : Int32 → SX → Prop) (h : (c = 2 → ((z = 0 → post (-3) (a, b, t)) ∧ (¬ z = 0 → wX_turn_67 post p x a b t))) ∧ (¬ c = 2 → wX_turn_67 post p x a b t)) : wX_turn_48 post p x z a b t := by
  unfold wX_turn_48
  exact cX _ h
theorem cf_turn (a b t : Nat → Int32) (p q : Int32) : ∃ (r : Int32) (s : SX), (∀ post : Int32 → SX → Prop, post r s → wpX_turn post (a, b, t) p q) ∧ (∀ post : Int32 → SY → Prop, post r s → wpY_turn post (a, b, t) p q) := by
  rcases cf_sec p with ⟨hp, hX, hY⟩ | ⟨hX, hY⟩
  · rcases cf_isBit q with ⟨l, hl, e, h0, h21, bX⟩ | ⟨bX, bY⟩
    · by_cases z : a p.toNatClampNeg = 0
      · refine ⟨-2, (a, b, t), fun post hq => ?_, fun post hq => ?_⟩
        · unfold wpX_turn; dsimp only
          exact hX _ (br_f (by decide) (bX _ (br_f (by decide) ⟨hp, br_t z hq⟩)))
        · unfold wpY_turn; dsimp only
          exact hY _ (br_t rfl (br_f h0 (br_t h21 ⟨hp, br_t z hq⟩)))
      · have hb := cf_bt (t p.toNatClampNeg) l (by omega)
        rw [← e] at hb
        obtain ⟨c, cX, cY⟩ := cf_count a b t p hp
        obtain ⟨c', dX, dY⟩ := cf_count a b (upd t p.toNatClampNeg (t p.toNatClampNeg ^^^ ((1 : Int32) <<< (q &&& 31)))) p hp
        have X67 : ∀ post : Int32 → SX → Prop, post c' (a, b, upd t p.toNatClampNeg (t p.toNatClampNeg ^^^ ((1 : Int32) <<< (q &&& 31)))) → wX_turn_67 post p ((1 : Int32) <<< (q &&& 31)) a b t := by
          intro post hq
          unfold wX_turn_67
          exact ⟨hp, hp, nm_e (dX _ hq)⟩
        have Y56 : ∀ post : Int32 → SY → Prop, post c' (a, b, upd t p.toNatClampNeg (t p.toNatClampNeg ^^^ ((1 : Int32) <<< (q &&& 31)))) → wY_turn_56 post p q a b t := by
          intro post hq
          unfold wY_turn_56
          exact ⟨hp, hp, nm_e (dY _ hq)⟩
        by_cases w : t p.toNatClampNeg &&& ((1 : Int32) <<< (q &&& 31)) = 0
        · have w' := hb.mpr w
          by_cases e2 : c = 2
          · refine ⟨-3, (a, b, t), fun post hq => ?_, fun post hq => ?_⟩
            · unfold wpX_turn; dsimp only
              exact hX _ (br_f (by decide) (bX _ (br_f (by decide) ⟨hp, br_f z (nm_e ⟨hp, br_t w (cf_x48 a b t p _ 0 c cX post (br_t e2 (br_t rfl hq)))⟩)⟩)))
            · unfold wpY_turn; dsimp only
              exact hY _ (br_t rfl (br_f h0 (br_t h21 ⟨hp, br_f z (cY _ (br_t e2 ⟨hp, br_t w' hq⟩))⟩)))
          · refine ⟨c', (a, b, upd t p.toNatClampNeg (t p.toNatClampNeg ^^^ ((1 : Int32) <<< (q &&& 31)))), fun post hq => ?_, fun post hq => ?_⟩
            · unfold wpX_turn; dsimp only
              exact hX _ (br_f (by decide) (bX _ (br_f (by decide) ⟨hp, br_f z (nm_e ⟨hp, br_t w (cf_x48 a b t p _ 0 c cX post (br_f e2 (X67 post hq)))⟩)⟩)))
            · unfold wpY_turn; dsimp only
              exact hY _ (br_t rfl (br_f h0 (br_t h21 ⟨hp, br_f z (cY _ (br_f e2 (Y56 post hq)))⟩)))
        · have w' : ¬ ((t p.toNatClampNeg >>> (q &&& 31)) &&& 1) = 0 := fun y => w (hb.mp y)
          refine ⟨c', (a, b, upd t p.toNatClampNeg (t p.toNatClampNeg ^^^ ((1 : Int32) <<< (q &&& 31)))), fun post hq => ?_, fun post hq => ?_⟩
          · unfold wpX_turn; dsimp only
            exact hX _ (br_f (by decide) (bX _ (br_f (by decide) ⟨hp, br_f z (nm_e ⟨hp, br_f w (cf_x48 a b t p _ 1 c cX post (br_c (fun _ => br_f (by decide) (X67 post hq)) (fun _ => X67 post hq)))⟩)⟩)))
          · unfold wpY_turn; dsimp only
            exact hY _ (br_t rfl (br_f h0 (br_t h21 ⟨hp, br_f z (cY _ (br_c (fun _ => ⟨hp, br_f w' (Y56 post hq)⟩) (fun _ => Y56 post hq)))⟩)))
    · refine ⟨-1, (a, b, t), fun post hq => ?_, fun post hq => ?_⟩
      · unfold wpX_turn; dsimp only
        exact hX _ (br_f (by decide) (bX _ (br_t rfl hq)))
      · unfold wpY_turn; dsimp only
        exact hY _ (br_t rfl (bY _ _ hq))
  · refine ⟨-1, (a, b, t), fun post hq => ?_, fun post hq => ?_⟩
    · unfold wpX_turn; dsimp only
      exact hX _ (br_t rfl hq)
    · unfold wpY_turn; dsimp only
      exact hY _ (br_f (by decide) hq)
end
section
/-- the two cards hold the same three arrays -/
def i_Rel (_ : Nat) (u : SX) (v : SY) : Prop := u = v
theorem i_up {k : Nat} {u : SX} {v : SY} (h : i_Rel k u v) : i_Rel (k + 3) u v := h
theorem i_vc0 : wpX_init (fun u => wpY_init (fun v => i_Rel 0 u v)) := rfl
theorem i_vc_write {k : Nat} {u : SX} {v : SY} (I : i_Rel k u v) (hk : k + 3 ≤ 1536) (v1 : Int32) (v2 : Int32) : wpX_write (fun r u' => wpY_write (fun r' v' => r' = r ∧ i_Rel (k + 3) u' v') v v1 v2) u v1 v2 := by
  cases I
  obtain ⟨a, b, t⟩ := u
  unfold wpX_write wpY_write; dsimp only
  rcases cf_sec v1 with ⟨hp, hX, hY⟩ | ⟨hX, hY⟩
  · exact hX _ (br_f (by decide) ⟨hp, nm_e ⟨hp, nm_e ⟨hp, nm_e (hY _ (br_t rfl ⟨hp, nm_e ⟨hp, nm_e ⟨hp, nm_e ⟨rfl, rfl⟩⟩⟩⟩))⟩⟩⟩)
  · exact hX _ (br_t rfl (hY _ (br_f (by decide) ⟨rfl, rfl⟩)))
theorem i_vc_read {k : Nat} {u : SX} {v : SY} (I : i_Rel k u v) (hk : k + 3 ≤ 1536) (v1 : Int32) : wpX_read (fun r => wpY_read (fun r' => r' = r ∧ i_Rel (k + 3) u v) v v1) u v1 := by
  cases I
  obtain ⟨a, b, t⟩ := u
  obtain ⟨r, _, hX, hY⟩ := cf_read a b t v1
  exact hX _ (hY _ ⟨rfl, rfl⟩)
theorem i_vc_trim {k : Nat} {u : SX} {v : SY} (I : i_Rel k u v) (hk : k + 3 ≤ 1536) (v1 : Int32) : wpX_trim (fun r u' => wpY_trim (fun r' v' => r' = r ∧ i_Rel (k + 3) u' v') v v1) u v1 := by
  cases I
  obtain ⟨a, b, t⟩ := u
  unfold wpX_trim wpY_trim; dsimp only
  rcases cf_sec v1 with ⟨hp, hX, hY⟩ | ⟨hX, hY⟩
  · by_cases z : a v1.toNatClampNeg = 0
    · exact hX _ (br_f (by decide) ⟨hp, br_t z (hY _ (br_t rfl ⟨hp, br_t z ⟨rfl, rfl⟩⟩))⟩)
    · exact hX _ (br_f (by decide) ⟨hp, br_f z ⟨hp, nm_e (hY _ (br_t rfl ⟨hp, br_f z ⟨hp, nm_e ⟨rfl, rfl⟩⟩⟩))⟩⟩)
  · exact hX _ (br_t rfl (hY _ (br_f (by decide) ⟨rfl, rfl⟩)))
theorem i_vc_turn {k : Nat} {u : SX} {v : SY} (I : i_Rel k u v) (hk : k + 3 ≤ 1536) (v1 : Int32) (v2 : Int32) : wpX_turn (fun r u' => wpY_turn (fun r' v' => r' = r ∧ i_Rel (k + 3) u' v') v v1 v2) u v1 v2 := by
  cases I
  obtain ⟨a, b, t⟩ := u
  obtain ⟨r, s, hX, hY⟩ := cf_turn a b t v1 v2
  exact hX _ (hY _ ⟨rfl, rfl⟩)
theorem i_vc_repair {k : Nat} {u : SX} {v : SY} (I : i_Rel k u v) (hk : k + 3 ≤ 1536) (v1 : Int32) : wpX_repair (fun r u' => wpY_repair (fun r' v' => r' = r ∧ i_Rel (k + 3) u' v') v v1) u v1 := by
  cases I
  obtain ⟨a, b, t⟩ := u
  obtain ⟨r, s, hX, hY⟩ := cf_repair a b t v1
  exact hX _ (hY _ ⟨rfl, rfl⟩)
theorem i_vc_power {k : Nat} {u : SX} {v : SY} (I : i_Rel k u v) (hk : k + 3 ≤ 1536) : wpX_power (fun u' => wpY_power (fun v' => i_Rel (k + 3) u' v') v) u := by
  cases I
  exact rfl
theorem i_vc_tidy {k : Nat} {u : SX} {v : SY} (I : i_Rel k u v) (hk : k + 3 ≤ 1536) (v1 : Int32) : wpX_tidy (fun u' => wpY_tidy (fun v' => i_Rel (k + 3) u' v') v v1) u v1 := by
  cases I
  exact rfl
theorem i_vc_written {k : Nat} {u : SX} {v : SY} (I : i_Rel k u v) (hk : k + 3 ≤ 1536) : wpX_written (fun r => wpY_written (fun r' => r' = r ∧ i_Rel (k + 3) u v) v) u := by
  cases I
  obtain ⟨a, b, t⟩ := u
  obtain ⟨r, hX, hY⟩ := cf_written a b t 16 0 rfl 0
  rw [nI_0] at hX hY
  exact ⟨_, hX _ ⟨_, hY _ ⟨rfl, rfl⟩⟩⟩
theorem i_vc_damaged {k : Nat} {u : SX} {v : SY} (I : i_Rel k u v) (hk : k + 3 ≤ 1536) : wpX_damaged (fun r => wpY_damaged (fun r' => r' = r ∧ i_Rel (k + 3) u v) v) u := by
  cases I
  obtain ⟨a, b, t⟩ := u
  obtain ⟨r, hX, hY⟩ := cf_damaged a b t 16 0 rfl 0
  rw [nI_0] at hX hY
  exact ⟨_, hX _ ⟨_, hY _ ⟨rfl, rfl⟩⟩⟩
theorem i_vc_sum {k : Nat} {u : SX} {v : SY} (I : i_Rel k u v) (hk : k + 3 ≤ 1536) : wpX_sum (fun r => wpY_sum (fun r' => r' = r ∧ i_Rel (k + 3) u v) v) u := by
  cases I
  obtain ⟨a, b, t⟩ := u
  obtain ⟨r, hX, hY⟩ := cf_sum a b t 16 0 rfl 0
  rw [nI_0] at hX hY
  exact ⟨_, hX _ ⟨_, hY _ ⟨rfl, rfl⟩⟩⟩
end
