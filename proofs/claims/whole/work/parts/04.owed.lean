/-- the two cards hold the same three arrays -/
def i_Rel (_ : Nat) (u : SX) (v : SY) : Prop := u = v
theorem i_up {k : Nat} {u : SX} {v : SY} (h : i_Rel k u v) : i_Rel (k + 3) u v := h
theorem i_vc0 : wpX_init (fun u => wpY_init (fun v => i_Rel 0 u v)) := rfl
theorem i_vc_write {k : Nat} {u : SX} {v : SY} (I : i_Rel k u v) (hk : k + 3 ≤ 1536) (v1 : Int32) (v2 : Int32) : wpX_write (fun r u' => wpY_write (fun r' v' => r' = r ∧ i_Rel (k + 3) u' v') v v1 v2) u v1 v2 := by
  cases I
  obtain ⟨a, b, t⟩ := u
  unfold wpX_write wpY_write; dsimp only
  rcases cf_sec v1 with ⟨hp, hX, hY⟩ | ⟨hX, hY⟩
  · exact hX _ (br_f (by decide) ⟨hp, nm_e ⟨hp, nm_e ⟨hp, nm_e (hY _ (br_t rfl ⟨hp, nm_e ⟨hp, nm_e ⟨hp, nm_e ⟨rfl, rfl⟩⟩⟩⟩))⟩⟩⟩)
  · exact hX _ (br_t rfl (hY _ (br_f (by decide) ⟨rfl, rfl⟩)))
theorem i_vc_read {k : Nat} {u : SX} {v : SY} (I : i_Rel k u v) (hk : k + 3 ≤ 1536) (v1 : Int32) : wpX_read (fun r => wpY_read (fun r' => r' = r ∧ i_Rel (k + 3) u v) v v1) u v1 := by
  cases I
  obtain ⟨a, b, t⟩ := u
  obtain ⟨r, _, hX, hY⟩ := cf_read a b t v1
  exact hX _ (hY _ ⟨rfl, rfl⟩)
theorem i_vc_trim {k : Nat} {u : SX} {v : SY} (I : i_Rel k u v) (hk : k + 3 ≤ 1536) (v1 : Int32) : wpX_trim (fun r u' => wpY_trim (fun r' v' => r' = r ∧ i_Rel (k + 3) u' v') v v1) u v1 := by
  cases I
  obtain ⟨a, b, t⟩ := u
  unfold wpX_trim wpY_trim; dsimp only
  rcases cf_sec v1 with ⟨hp, hX, hY⟩ | ⟨hX, hY⟩
  · by_cases z : a v1.toNatClampNeg = 0
    · exact hX _ (br_f (by decide) ⟨hp, br_t z (hY _ (br_t rfl ⟨hp, br_t z ⟨rfl, rfl⟩⟩))⟩)
    · exact hX _ (br_f (by decide) ⟨hp, br_f z ⟨hp, nm_e (hY _ (br_t rfl ⟨hp, br_f z ⟨hp, nm_e ⟨rfl, rfl⟩⟩⟩))⟩⟩)
  · exact hX _ (br_t rfl (hY _ (br_f (by decide) ⟨rfl, rfl⟩)))
theorem i_vc_turn {k : Nat} {u : SX} {v : SY} (I : i_Rel k u v) (hk : k + 3 ≤ 1536) (v1 : Int32) (v2 : Int32) : wpX_turn (fun r u' => wpY_turn (fun r' v' => r' = r ∧ i_Rel (k + 3) u' v') v v1 v2) u v1 v2 := by
  cases I
  obtain ⟨a, b, t⟩ := u
  obtain ⟨r, s, hX, hY⟩ := cf_turn a b t v1 v2
  exact hX _ (hY _ ⟨rfl, rfl⟩)
theorem i_vc_repair {k : Nat} {u : SX} {v : SY} (I : i_Rel k u v) (hk : k + 3 ≤ 1536) (v1 : Int32) : wpX_repair (fun r u' => wpY_repair (fun r' v' => r' = r ∧ i_Rel (k + 3) u' v') v v1) u v1 := by
  cases I
  obtain ⟨a, b, t⟩ := u
  obtain ⟨r, s, hX, hY⟩ := cf_repair a b t v1
  exact hX _ (hY _ ⟨rfl, rfl⟩)
theorem i_vc_power {k : Nat} {u : SX} {v : SY} (I : i_Rel k u v) (hk : k + 3 ≤ 1536) : wpX_power (fun u' => wpY_power (fun v' => i_Rel (k + 3) u' v') v) u := by
  cases I
  exact rfl
theorem i_vc_tidy {k : Nat} {u : SX} {v : SY} (I : i_Rel k u v) (hk : k + 3 ≤ 1536) (v1 : Int32) : wpX_tidy (fun u' => wpY_tidy (fun v' => i_Rel (k + 3) u' v') v v1) u v1 := by
  cases I
  exact rfl
theorem i_vc_written {k : Nat} {u : SX} {v : SY} (I : i_Rel k u v) (hk : k + 3 ≤ 1536) : wpX_written (fun r => wpY_written (fun r' => r' = r ∧ i_Rel (k + 3) u v) v) u := by
  cases I
  obtain ⟨a, b, t⟩ := u
  obtain ⟨r, hX, hY⟩ := cf_written a b t 16 0 rfl 0
  rw [nI_0] at hX hY
  exact ⟨_, hX _ ⟨_, hY _ ⟨rfl, rfl⟩⟩⟩
theorem i_vc_damaged {k : Nat} {u : SX} {v : SY} (I : i_Rel k u v) (hk : k + 3 ≤ 1536) : wpX_damaged (fun r => wpY_damaged (fun r' => r' = r ∧ i_Rel (k + 3) u v) v) u := by
  cases I
  obtain ⟨a, b, t⟩ := u
  obtain ⟨r, hX, hY⟩ := cf_damaged a b t 16 0 rfl 0
  rw [nI_0] at hX hY
  exact ⟨_, hX _ ⟨_, hY _ ⟨rfl, rfl⟩⟩⟩
theorem i_vc_sum {k : Nat} {u : SX} {v : SY} (I : i_Rel k u v) (hk : k + 3 ≤ 1536) : wpX_sum (fun r => wpY_sum (fun r' => r' = r ∧ i_Rel (k + 3) u v) v) u := by
  cases I
  obtain ⟨a, b, t⟩ := u
  obtain ⟨r, hX, hY⟩ := cf_sum a b t 16 0 rfl 0
  rw [nI_0] at hX hY
  exact ⟨_, hX _ ⟨_, hY _ ⟨rfl, rfl⟩⟩⟩
