theorem cf_x48 (a b t : Nat → Int32) (p x z c : Int32) (cX : ∀ post : Int32 → Prop, post c → wpX_countTurned post (a, b, t) p) (post : Int32 → SX → Prop) (h : (c = 2 → ((z = 0 → post (-3) (a, b, t)) ∧ (¬ z = 0 → wX_turn_67 post p x a b t))) ∧ (¬ c = 2 → wX_turn_67 post p x a b t)) : wX_turn_48 post p x z a b t := by
  unfold wX_turn_48
  exact cX _ h
theorem cf_turn (a b t : Nat → Int32) (p q : Int32) : ∃ (r : Int32) (s : SX), (∀ post : Int32 → SX → Prop, post r s → wpX_turn post (a, b, t) p q) ∧ (∀ post : Int32 → SY → Prop, post r s → wpY_turn post (a, b, t) p q) := by
  rcases cf_sec p with ⟨hp, hX, hY⟩ | ⟨hX, hY⟩
  · rcases cf_isBit q with ⟨l, hl, e, h0, h21, bX⟩ | ⟨bX, bY⟩
    · by_cases z : a p.toNatClampNeg = 0
      · refine ⟨-2, (a, b, t), fun post hq => ?_, fun post hq => ?_⟩
        · unfold wpX_turn; dsimp only
          exact hX _ (br_f (by decide) (bX _ (br_f (by decide) ⟨hp, br_t z hq⟩)))
        · unfold wpY_turn; dsimp only
          exact hY _ (br_t rfl (br_f h0 (br_t h21 ⟨hp, br_t z hq⟩)))
      · have hb := cf_bt (t p.toNatClampNeg) l (by omega)
        rw [← e] at hb
        obtain ⟨c, cX, cY⟩ := cf_count a b t p hp
        obtain ⟨c', dX, dY⟩ := cf_count a b (upd t p.toNatClampNeg (t p.toNatClampNeg ^^^ ((1 : Int32) <<< (q &&& 31)))) p hp
        have X67 : ∀ post : Int32 → SX → Prop, post c' (a, b, upd t p.toNatClampNeg (t p.toNatClampNeg ^^^ ((1 : Int32) <<< (q &&& 31)))) → wX_turn_67 post p ((1 : Int32) <<< (q &&& 31)) a b t := by
          intro post hq
          unfold wX_turn_67
          exact ⟨hp, hp, nm_e (dX _ hq)⟩
        have Y56 : ∀ post : Int32 → SY → Prop, post c' (a, b, upd t p.toNatClampNeg (t p.toNatClampNeg ^^^ ((1 : Int32) <<< (q &&& 31)))) → wY_turn_56 post p q a b t := by
          intro post hq
          unfold wY_turn_56
          exact ⟨hp, hp, nm_e (dY _ hq)⟩
        by_cases w : t p.toNatClampNeg &&& ((1 : Int32) <<< (q &&& 31)) = 0
        · have w' := hb.mpr w
          by_cases e2 : c = 2
          · refine ⟨-3, (a, b, t), fun post hq => ?_, fun post hq => ?_⟩
            · unfold wpX_turn; dsimp only
              exact hX _ (br_f (by decide) (bX _ (br_f (by decide) ⟨hp, br_f z (nm_e ⟨hp, br_t w (cf_x48 a b t p _ 0 c cX post (br_t e2 (br_t rfl hq)))⟩)⟩)))
            · unfold wpY_turn; dsimp only
              exact hY _ (br_t rfl (br_f h0 (br_t h21 ⟨hp, br_f z (cY _ (br_t e2 ⟨hp, br_t w' hq⟩))⟩)))
          · refine ⟨c', (a, b, upd t p.toNatClampNeg (t p.toNatClampNeg ^^^ ((1 : Int32) <<< (q &&& 31)))), fun post hq => ?_, fun post hq => ?_⟩
            · unfold wpX_turn; dsimp only
              exact hX _ (br_f (by decide) (bX _ (br_f (by decide) ⟨hp, br_f z (nm_e ⟨hp, br_t w (cf_x48 a b t p _ 0 c cX post (br_f e2 (X67 post hq)))⟩)⟩)))
            · unfold wpY_turn; dsimp only
              exact hY _ (br_t rfl (br_f h0 (br_t h21 ⟨hp, br_f z (cY _ (br_f e2 (Y56 post hq)))⟩)))
        · have w' : ¬ ((t p.toNatClampNeg >>> (q &&& 31)) &&& 1) = 0 := fun y => w (hb.mp y)
          refine ⟨c', (a, b, upd t p.toNatClampNeg (t p.toNatClampNeg ^^^ ((1 : Int32) <<< (q &&& 31)))), fun post hq => ?_, fun post hq => ?_⟩
          · unfold wpX_turn; dsimp only
            exact hX _ (br_f (by decide) (bX _ (br_f (by decide) ⟨hp, br_f z (nm_e ⟨hp, br_f w (cf_x48 a b t p _ 1 c cX post (br_c (fun _ => br_f (by decide) (X67 post hq)) (fun _ => X67 post hq)))⟩)⟩)))
          · unfold wpY_turn; dsimp only
            exact hY _ (br_t rfl (br_f h0 (br_t h21 ⟨hp, br_f z (cY _ (br_c (fun _ => ⟨hp, br_f w' (Y56 post hq)⟩) (fun _ => Y56 post hq)))⟩)))
    · refine ⟨-1, (a, b, t), fun post hq => ?_, fun post hq => ?_⟩
      · unfold wpX_turn; dsimp only
        exact hX _ (br_f (by decide) (bX _ (br_t rfl hq)))
      · unfold wpY_turn; dsimp only
        exact hY _ (br_t rfl (bY _ _ hq))
  · refine ⟨-1, (a, b, t), fun post hq => ?_, fun post hq => ?_⟩
    · unfold wpX_turn; dsimp only
      exact hX _ (br_t rfl hq)
    · unfold wpY_turn; dsimp only
      exact hY _ (br_f (by decide) hq)
