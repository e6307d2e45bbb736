theorem p1_tail (d : Nat) (f : Nat → Int) (a b : Nat → Nat → Int) : jt (jxX (6, f) d 305 1189 [some (.inr (.inr (.inl 3000))), some (.inr (.inr (.inl 0))), some (.inr (.inr (.inl 146))), some (.inl 0)] [] (jxSH, a, b)) (fun v _ _ => v = [.inl 1]) := by
  rw [bq_law_1189, bq_law_18]
  exact ⟨_, _, _, rfl, rfl⟩
set_option maxRecDepth 10000 in
theorem p1_op1 (d : Nat) (f : Nat → Int) (hf : ∀ j, -2147483648 ≤ f j ∧ f j < 2147483648) : jt (jxX (6, f) (d + 20) 305 203 [some (.inr (.inr (.inl 3000))), some (.inr (.inr (.inl 0))), some (.inr (.inr (.inl 146))), some (.inl 0)] [] (jxSH, jxa0, jxb0)) (fun v _ _ => v = [.inl 1]) := by
  rw [bq_law_203]
  simp only [bq_X11_far, bq_X11_far_29, bq_X11_far_31, bq_X11_isLand, bq_X11_within, bq_X12_far, bq_X12_far_29, bq_X12_far_31, bq_X12_in, bq_X12_isLand, ra_0_1, ra_146_1, jxbI_some, jxbJ_some, jxbV_some, jxu_ap]
  trace_state
  sorry
set_option maxRecDepth 10000 in
theorem p1_op15 (d : Nat) (f : Nat → Int) (hf : ∀ j, -2147483648 ≤ f j ∧ f j < 2147483648) : jt (jxX (6, f) (d + 20) 305 615 [some (.inr (.inr (.inl 3000))), some (.inr (.inr (.inl 0))), some (.inr (.inr (.inl 146))), some (.inl 0)] [] (jxSH, jxa0, jxb0)) (fun v _ _ => v = [.inl 1]) := by
  rw [bq_law_615]
  simp only [bq_X0_arrivedOnOf, bq_X0_boundOf, bq_X0_cancelledOnOf, bq_X0_fromOf, bq_X0_ringOf, bq_X0_sentOnOf, bq_X0_toOf, bq_X11_card, bq_X11_entry_r59, bq_X11_entry_r60, bq_X11_entry_r61, bq_X11_entry_r62, bq_X11_entry_r63, bq_X11_entry_r64, bq_X11_entry_r65, bq_X11_entry_r67, bq_X12_card, bq_X12_in, ra_0_6, ra_146_9, ra_58_1, ra_58_10, ra_58_12, ra_58_2, ra_58_3, ra_58_4, ra_58_5, ra_58_6, ra_58_7, ra_58_8, jxbI_some, jxbJ_some, jxbV_some, jxu_ap]
  trace_state
  sorry
set_option maxRecDepth 10000 in
theorem p1_op0 (d : Nat) (f : Nat → Int) (hf : ∀ j, -2147483648 ≤ f j ∧ f j < 2147483648) : jt (jxX (6, f) (d + 20) 305 180 [some (.inr (.inr (.inl 3000))), some (.inr (.inr (.inl 0))), some (.inr (.inr (.inl 146))), some (.inl 0)] [] (jxSH, jxa0, jxb0)) (fun v _ _ => v = [.inl 1]) := by
  rw [bq_law_180]
  simp only [bq_X11_clock, bq_X11_isDay, bq_X11_within, bq_X12_clock, bq_X12_in, ra_0_0, ra_146_0, jxbI_some, jxbJ_some, jxbV_some, jxu_ap]
  trace_state
  sorry
set_option maxRecDepth 10000 in
theorem p1_op2 (d : Nat) (f : Nat → Int) (hf : ∀ j, -2147483648 ≤ f j ∧ f j < 2147483648) : jt (jxX (6, f) (d + 20) 305 246 [some (.inr (.inr (.inl 3000))), some (.inr (.inr (.inl 0))), some (.inr (.inr (.inl 146))), some (.inl 0)] [] (jxSH, jxa0, jxb0)) (fun v _ _ => v = [.inl 1]) := by
  rw [bq_law_246]
  simp only [bq_X11_isLand, bq_X11_member, bq_X11_member_31, bq_X11_member_32, bq_X11_within, bq_X3_add, bq_X3_add_31, bq_X3_add_62, bq_X12_in, bq_X12_isLand, bq_X12_member, bq_X12_member_101, bq_X12_member_36, bq_X12_member_38, bq_X12_member_68, ra_0_0, ra_0_3, ra_146_0, ra_146_2, ra_146_3, ra_146_4, ra_146_5, ra_146_6, ra_146_7, ra_4_0, ra_4_1, ra_4_2, ra_4_3, ra_4_5, ra_4_6, jxbI_some, jxbJ_some, jxbV_some, jxu_ap]
  trace_state
  sorry
set_option maxRecDepth 10000 in
theorem p1_op28 (d : Nat) (f : Nat → Int) (hf : ∀ j, -2147483648 ≤ f j ∧ f j < 2147483648) : jt (jxX (6, f) (d + 20) 305 1014 [some (.inr (.inr (.inl 3000))), some (.inr (.inr (.inl 0))), some (.inr (.inr (.inl 146))), some (.inl 0)] [] (jxSH, jxa0, jxb0)) (fun v _ _ => v = [.inl 1]) := by
  rw [bq_law_1014]
  simp only [bq_X11_isDay, bq_X11_isLand, bq_X11_price, bq_X11_price_33, bq_X11_price_35, bq_X11_within, bq_X11_zone, bq_X9_coinsFor, bq_X9_holdingOn, bq_X9_holdingOn_4, bq_X12_in, bq_X12_isDay, bq_X12_isLand, bq_X12_price, bq_X12_price_33, bq_X12_price_45, bq_X12_priceOf, bq_X12_priceOf_6, ra_0_1, ra_0_15, ra_105_5, ra_146_68, jxbI_some, jxbJ_some, jxbV_some, jxu_ap]
  trace_state
  sorry
