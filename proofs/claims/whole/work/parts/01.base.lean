/-! shift counts, one bit (s_l, nf_sh, nf_tp out of the rows to paste) -/
theorem s_l : ∀ n, n < 32 → ((nI n &&& 31).toBitVec.smod 32).toNat = n := by decide +kernel
theorem nf_sh : ∀ l, l < 32 → ((1 : Int32) <<< (nI l &&& 31)).toBitVec = BitVec.twoPow 32 l := by decide +kernel
theorem nf_tp : ∀ l, l < 32 → BitVec.twoPow 32 l ≠ 0#32 := by decide +kernel
/-- the reference's test of a bit by a shift is the class's test by a mask -/
theorem cf_bt (m : Int32) (l : Nat) (hl : l < 32) : ((m >>> (nI l &&& 31)) &&& 1) = 0 ↔ (m &&& ((1 : Int32) <<< (nI l &&& 31))) = 0 := by
  have e : (m >>> (nI l &&& 31)).toBitVec = m.toBitVec.sshiftRight l := by
    rw [Int32.toBitVec_shiftRight]
    show m.toBitVec.sshiftRight ((nI l &&& 31).toBitVec.smod 32).toNat = _
    rw [s_l l hl]
  have g : (m.toBitVec.sshiftRight l).getLsbD 0 = m.toBitVec.getLsbD l := by
    rw [BitVec.getLsbD_sshiftRight, Nat.add_zero, if_pos hl]
    rfl
  rw [← Int32.toBitVec_inj, ← Int32.toBitVec_inj, Int32.toBitVec_and, Int32.toBitVec_and, nf_sh l hl, e, BitVec.and_twoPow]
  show (m.toBitVec.sshiftRight l &&& 1#32) = 0#32 ↔ _ = 0#32
  rw [BitVec.and_one_eq_setWidth_ofBool_getLsbD, g]
  cases hb : m.toBitVec.getLsbD l
  · exact ⟨fun _ => by simp, fun _ => by decide⟩
  · exact ⟨fun z => absurd z (by decide), fun z => absurd ((if_pos rfl).symm.trans z) (nf_tp l hl)⟩
/-- the two tests of a sector's number -/
theorem cf_sec (p : Int32) : (vp_in p 16 ∧ (∀ post : Int32 → Prop, post 1 → wpX_isSector post p) ∧ (∀ post : Int32 → Prop, post 0 → wpY_bad post p)) ∨ ((∀ post : Int32 → Prop, post 0 → wpX_isSector post p) ∧ (∀ post : Int32 → Prop, post 1 → wpY_bad post p)) := by
  by_cases h0 : p < 0
  · exact Or.inr ⟨fun _ h => br_t h0 h, fun _ h => br_t h0 h⟩
  · obtain ⟨j, hj, rfl⟩ := nI_of h0
    by_cases h : j < 16
    · have h1 : ¬ (16 : Int32) ≤ nI j := nI_ge (b := 16) h (by decide)
      have h2 : nI j ≤ (15 : Int32) := nI_le (b := 15) (by omega) (by decide)
      exact Or.inl ⟨vp_in_nI h (by decide), fun _ q => br_f h0 (br_f h1 q), fun _ q => br_f h0 (br_t h2 q)⟩
    · have h1 : (16 : Int32) ≤ nI j := nI_le (a := 16) (by omega) hj
      have h2 : ¬ nI j ≤ (15 : Int32) := nI_ge (a := 15) (by omega) hj
      exact Or.inr ⟨fun _ q => br_f h0 (br_t h1 q), fun _ q => br_f h0 (br_f h2 q)⟩
/-- the two tests of a bit's number -/
theorem cf_isBit (p : Int32) : (∃ l : Nat, l < 22 ∧ p = nI l ∧ ¬ p < 0 ∧ p ≤ 21 ∧ (∀ post : Int32 → Prop, post 1 → wpX_isBit post p)) ∨ ((∀ post : Int32 → Prop, post 0 → wpX_isBit post p) ∧ (∀ G B : Prop, B → ((p < 0 → B) ∧ (¬ p < 0 → ((p ≤ 21 → G) ∧ (¬ p ≤ 21 → B)))))) := by
  by_cases h0 : p < 0
  · exact Or.inr ⟨fun _ h => br_t h0 h, fun _ _ h => br_t h0 h⟩
  · obtain ⟨j, hj, rfl⟩ := nI_of h0
    by_cases h : j < 22
    · have h1 : ¬ (22 : Int32) ≤ nI j := nI_ge (b := 22) h (by decide)
      have h2 : nI j ≤ (21 : Int32) := nI_le (b := 21) (by omega) (by decide)
      exact Or.inl ⟨j, h, rfl, h0, h2, fun _ q => br_f h0 (br_f h1 q)⟩
    · have h1 : (22 : Int32) ≤ nI j := nI_le (a := 22) (by omega) hj
      have h2 : ¬ nI j ≤ (21 : Int32) := nI_ge (a := 21) (by omega) hj
      exact Or.inr ⟨fun _ q => br_f h0 (br_t h1 q), fun _ _ q => br_f h0 (br_f h2 q)⟩
