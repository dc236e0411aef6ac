/-! ===== all methods; the beginning ===== -/
theorem pu_all {F : Nat} (hF : 2000 ≤ F) : PU F (Inv PMd PSd) :=
  ⟨pu_feed, pu_village hF, pu_lane, pu_rule hF, pu_takeUp hF, pu_is hF, pu_hangs hF, pu_parts hF, pu_many hF, pu_sum hF, pu_way hF, pu_likely hF, pu_pair hF, pu_less hF, pu_inAll hF, pu_inNone hF, pu_cheap hF, pu_nights hF, pu_step hF, pu_toward hF, pu_forests hF, pu_ploughs hF, pu_hard hF, pu_more hF, pu_holds hF, pu_plan hF, pu_draw hF, pu_often hF, pu_row, pu_judge hF, pu_image hF, pu_restore hF, pu_count hF⟩
def V00 : Vd := (3, 0, fun _ _ => 0)
theorem V00_ok : okV V00 := ⟨by decide, by decide, by decide, fun l hl => absurd hl (Nat.not_lt_zero l)⟩
theorem ix_00 : IX mX0 1 V00 := ⟨rfl, rfl, rfl, rfl, fun l hl => absurd hl (Nat.not_lt_zero l)⟩
theorem start_all {F : Nat} (hF : 2000 ≤ F) : ∃ mB mX, gX2_build F mX0 = some mB ∧ gX7_list F mB = some mX ∧ Inv PMd PSd (m00 mX) := by
  obtain ⟨mB, b1, b2, b3⟩ := x_build hF V00_ok ix_00
  have hx : IX mB 1 V00 := ix_00.sm (fun k hk => b2.1 _ (by omega))
  obtain ⟨mX, c1, c2, c3, c4⟩ := x_list hF V00_ok hx b3
  have hx2 := c2.ix hx
  have hj2 := c2.ij b3
  have lo : ∀ j, j < 43 → (m00 mX).1 j = mX.1 j := fun j hj => by
    show (if j < 43 then mX.1 j else _) = _
    rw [if_pos hj]
  have old : ∀ j, j < 43 → j ≠ 25 → j ≠ 26 → j ≠ 27 → j ≠ 28 → (m00 mX).1 j = mX0.1 j := fun j h1 h2 h3 h4 h5 => by rw [lo j h1, c2.1 j h3 h4 h5, b2.1 j h2]
  refine ⟨mB, mX, b1, c1, V00, V00_ok, hx2.sm (fun k hk => lo _ (by omega)), ⟨rfl, rfl, fun l k hl => absurd hl (Nat.not_lt_zero l)⟩, ?_, c3.sm (by rw [lo 26 (by decide)]) (lo 27 (by decide)) (lo 28 (by decide)), Or.inl (by rw [lo 26 (by decide)]; exact c4), ⟨0, by decide, ?_, rfl, fun i hi => absurd hi (Nat.not_lt_zero i)⟩, Or.inl ⟨?_, rfl⟩, ⟨0, by decide, ?_, rfl, fun i hi => absurd hi (Nat.not_lt_zero i)⟩, fun k h1 h6 => ?_, Or.inl ?_⟩
  · unfold IJ at hj2 ⊢
    rw [lo 25 (by decide)]
    exact hj2
  · rw [old 22 (by decide) (by decide) (by decide) (by decide) (by decide)]; rfl
  · rw [old 0 (by decide) (by decide) (by decide) (by decide) (by decide)]; rfl
  · rw [old 35 (by decide) (by decide) (by decide) (by decide) (by decide)]; rfl
  · rw [old 42 (by decide) (by decide) (by decide) (by decide) (by decide)]; rfl
  · rw [old 31 (by decide) (by decide) (by decide) (by decide) (by decide)]; rfl
