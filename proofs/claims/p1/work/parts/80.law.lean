theorem jt_bif {c : Bool} {X Y : Option jxR} {Q : List jxV → (Nat → Nat → Int) → (Nat → Nat → Int) → Prop} (hc : c = true) (h : jt X Q) : jt (bif c then X else Y) Q := by
  rw [hc]; exact h
theorem lw_op180 (E : jxE) (d : Nat) (hd : Nat.ble 60 (d + 1) = true) (hL : E.1 ≤ 6) (y3 : Int) (hy0 : y3 = 0) (hy1 : y3 + 6 ≤ E.1) (hnext : ∀ (a b : Nat → Nat → Int), jt (jxX E d 305 1189 [some (.inr (.inr (.inl 3000))), some (.inr (.inr (.inl 0))), some (.inr (.inr (.inl 146))), some (.inl y3)] [] (jxSH, a, b)) (fun v _ _ => v = [.inl 1])) (a b : Nat → Nat → Int) (hv : iv a) (hg0 : WFW a) (hg1 : SV a) (hg2 : OC a) (hg3 : FO a) (hg4 : FW a) (hg5 : FARR a) (hr0 : a 0 0 = 0) (hr1 : a 146 0 = 0) (hr2 : a 4 6 = 0) (hr3 : a 146 2 = 0) (hr4 : a 2 1 = 0) (hr5 : a 146 22 = 0) (hr6 : a 0 9 = 0) (hr7 : a 146 42 = 0) (hr8 : a 58 8 = 0) (hr9 : a 146 9 = 0) (hr10 : a 58 12 = 0) (hr11 : a 146 17 = 0) (hr12 : a 83 6 = 0) (hr13 : a 146 49 = 0) (hr14 : a 83 7 = 0) (hr15 : a 146 55 = 0) (hr16 : a 90 12 = 0) (hr17 : a 146 64 = 0) (hr18 : a 105 5 = 0) (hr19 : a 146 68 = 0) (hr20 : a 146 75 = 0) (hr21 : a 56 0 = 5) (hr22 : a 56 1 = 10) (hr23 : a 56 2 = 3) (hr24 : a 56 3 = 60) (hr25 : a 56 4 = 2) (hw142 : ∀ j : Nat, j < 8 → a 142 j = -1) (hw196 : ∀ j : Nat, j < 8 → a 196 j = -1) (hw143 : ∀ j : Nat, a 143 j = 0) (hw197 : ∀ j : Nat, a 197 j = 0) (hw144 : ∀ j : Nat, j < 8 → a 144 j = -1) (hw171 : ∀ j : Nat, (j = 0 → a 171 j = 5) ∧ (j = 1 → a 171 j = 10) ∧ (j = 2 → a 171 j = 3) ∧ (j = 3 → a 171 j = 60) ∧ (j = 4 → a 171 j = 2)) : jt (jxX E d 305 180 [some (.inr (.inr (.inl 3000))), some (.inr (.inr (.inl 0))), some (.inr (.inr (.inl 146))), some (.inl y3)] [] (jxSH, a, b)) (fun v _ _ => v = [.inl 1]) := by
  refine jt_eq (bq_law_180 E d y3 a b) ?_
  refine jt_bif (Nat.ble_eq_true_of_le (by omega)) ?_
  have h1_ : jxw (y3 + 1) = y3 + 1 := jxw_id (by omega) (by omega)
  refine jt_grd (by omega) ?_
  refine jt_bI (sp_X11_clock E d (jd_le hd rfl) (E.2 ((jxw (y3 + 1)).toNat)) a b hv) (fun r2_ a2_ b2_ h2_ => ?_)
  obtain ⟨hv2_, hf2_, rfl, hq2_0, hq2_1⟩ := h2_
  have h3_ := iv_get hv (k := 0) (j := 0) (l := 0) (u := 1999) rfl
  have h4_ := iv_get hv2_ (k := 0) (j := 0) (l := 0) (u := 1999) rfl
  refine jt_bif (Nat.ble_eq_true_of_le (by omega)) ?_
  refine jt_grd (by omega) ?_
  refine jt_bI (sp_X12_clock E d (jd_le hd rfl) (E.2 ((jxw (y3 + 1)).toNat)) a2_ b hv2_) (fun r5_ a5_ b5_ h5_ => ?_)
  obtain ⟨hv5_, hf5_, rfl, hq5_0, hq5_1⟩ := h5_
  have h6_ := iv_get hv2_ (k := 146) (j := 0) (l := 0) (u := 1999) rfl
  have h7_ : a2_ 146 0 = a 146 0 := hf2_ 146 0 rfl
  have h8_ := iv_get hv (k := 146) (j := 0) (l := 0) (u := 1999) rfl
  have h9_ := iv_get hv5_ (k := 146) (j := 0) (l := 0) (u := 1999) rfl
  refine jt_ite (fun c10_ => ?_) (fun c10_ => ?_)
  ·
    exact hnext a5_ b 
  ·
    exact absurd (by omega : False) id
theorem lw_op203 (E : jxE) (d : Nat) (hd : Nat.ble 60 (d + 1) = true) (hL : E.1 ≤ 6) (y3 : Int) (hy0 : y3 = 0) (hy1 : y3 + 6 ≤ E.1) (hnext : ∀ (a b : Nat → Nat → Int), jt (jxX E d 305 1189 [some (.inr (.inr (.inl 3000))), some (.inr (.inr (.inl 0))), some (.inr (.inr (.inl 146))), some (.inl y3)] [] (jxSH, a, b)) (fun v _ _ => v = [.inl 1])) (a b : Nat → Nat → Int) (hv : iv a) (hg0 : WFW a) (hg1 : SV a) (hg2 : OC a) (hg3 : FO a) (hg4 : FW a) (hg5 : FARR a) (hr0 : a 0 0 = 0) (hr1 : a 146 0 = 0) (hr2 : a 4 6 = 0) (hr3 : a 146 2 = 0) (hr4 : a 2 1 = 0) (hr5 : a 146 22 = 0) (hr6 : a 0 9 = 0) (hr7 : a 146 42 = 0) (hr8 : a 58 8 = 0) (hr9 : a 146 9 = 0) (hr10 : a 58 12 = 0) (hr11 : a 146 17 = 0) (hr12 : a 83 6 = 0) (hr13 : a 146 49 = 0) (hr14 : a 83 7 = 0) (hr15 : a 146 55 = 0) (hr16 : a 90 12 = 0) (hr17 : a 146 64 = 0) (hr18 : a 105 5 = 0) (hr19 : a 146 68 = 0) (hr20 : a 146 75 = 0) (hr21 : a 56 0 = 5) (hr22 : a 56 1 = 10) (hr23 : a 56 2 = 3) (hr24 : a 56 3 = 60) (hr25 : a 56 4 = 2) (hw142 : ∀ j : Nat, j < 8 → a 142 j = -1) (hw196 : ∀ j : Nat, j < 8 → a 196 j = -1) (hw143 : ∀ j : Nat, a 143 j = 0) (hw197 : ∀ j : Nat, a 197 j = 0) (hw144 : ∀ j : Nat, j < 8 → a 144 j = -1) (hw171 : ∀ j : Nat, (j = 0 → a 171 j = 5) ∧ (j = 1 → a 171 j = 10) ∧ (j = 2 → a 171 j = 3) ∧ (j = 3 → a 171 j = 60) ∧ (j = 4 → a 171 j = 2)) : jt (jxX E d 305 203 [some (.inr (.inr (.inl 3000))), some (.inr (.inr (.inl 0))), some (.inr (.inr (.inl 146))), some (.inl y3)] [] (jxSH, a, b)) (fun v _ _ => v = [.inl 1]) := by
  refine jt_eq (bq_law_203 E d y3 a b) ?_
  refine jt_bif (Nat.ble_eq_true_of_le (by omega)) ?_
  have h11_ : jxw (y3 + 1) = y3 + 1 := jxw_id (by omega) (by omega)
  refine jt_grd (by omega) ?_
  refine jt_bif (Nat.ble_eq_true_of_le (by omega)) ?_
  have h12_ : jxw (y3 + 2) = y3 + 2 := jxw_id (by omega) (by omega)
  refine jt_grd (by omega) ?_
  refine jt_bif (Nat.ble_eq_true_of_le (by omega)) ?_
  have h13_ : jxw (y3 + 3) = y3 + 3 := jxw_id (by omega) (by omega)
  refine jt_grd (by omega) ?_
  refine jt_bI (sp_X11_far E d (jd_le hd rfl) (E.2 ((jxw (y3 + 1)).toNat)) (E.2 ((jxw (y3 + 2)).toNat)) (E.2 ((jxw (y3 + 3)).toNat)) a b hv) (fun r14_ a14_ b14_ h14_ => ?_)
  obtain ⟨hv14_, hf14_, rfl, hq14_0⟩ := h14_
  refine jt_bif (Nat.ble_eq_true_of_le (by omega)) ?_
  refine jt_grd (by omega) ?_
  refine jt_bif (Nat.ble_eq_true_of_le (by omega)) ?_
  refine jt_grd (by omega) ?_
  refine jt_bif (Nat.ble_eq_true_of_le (by omega)) ?_
  refine jt_grd (by omega) ?_
  refine jt_bI (sp_X12_far E d (jd_le hd rfl) (E.2 ((jxw (y3 + 1)).toNat)) (E.2 ((jxw (y3 + 2)).toNat)) (E.2 ((jxw (y3 + 3)).toNat)) a14_ b hv14_) (fun r15_ a15_ b15_ h15_ => ?_)
  obtain ⟨hv15_, hf15_, rfl, hq15_0⟩ := h15_
  have hd15 := FarP_det hq14_0 hq15_0 (fun j => by rw [hf14_ 147 j rfl]; exact hg5 j)
  have hdr15 := hd15.1
  have hF15 : FARR a15_ := fun j => by rw [hf15_ 1 j rfl]; exact hd15.2 j
  refine jt_ite (fun c16_ => ?_) (fun c16_ => ?_)
  ·
    exact hnext a15_ b 
  ·
    exact absurd (by omega : False) id
theorem lw_op246 (E : jxE) (d : Nat) (hd : Nat.ble 60 (d + 1) = true) (hL : E.1 ≤ 6) (y3 : Int) (hy0 : y3 = 0) (hy1 : y3 + 6 ≤ E.1) (hnext : ∀ (a b : Nat → Nat → Int), jt (jxX E d 305 1189 [some (.inr (.inr (.inl 3000))), some (.inr (.inr (.inl 0))), some (.inr (.inr (.inl 146))), some (.inl y3)] [] (jxSH, a, b)) (fun v _ _ => v = [.inl 1])) (a b : Nat → Nat → Int) (hv : iv a) (hg0 : WFW a) (hg1 : SV a) (hg2 : OC a) (hg3 : FO a) (hg4 : FW a) (hg5 : FARR a) (hr0 : a 0 0 = 0) (hr1 : a 146 0 = 0) (hr2 : a 4 6 = 0) (hr3 : a 146 2 = 0) (hr4 : a 2 1 = 0) (hr5 : a 146 22 = 0) (hr6 : a 0 9 = 0) (hr7 : a 146 42 = 0) (hr8 : a 58 8 = 0) (hr9 : a 146 9 = 0) (hr10 : a 58 12 = 0) (hr11 : a 146 17 = 0) (hr12 : a 83 6 = 0) (hr13 : a 146 49 = 0) (hr14 : a 83 7 = 0) (hr15 : a 146 55 = 0) (hr16 : a 90 12 = 0) (hr17 : a 146 64 = 0) (hr18 : a 105 5 = 0) (hr19 : a 146 68 = 0) (hr20 : a 146 75 = 0) (hr21 : a 56 0 = 5) (hr22 : a 56 1 = 10) (hr23 : a 56 2 = 3) (hr24 : a 56 3 = 60) (hr25 : a 56 4 = 2) (hw142 : ∀ j : Nat, j < 8 → a 142 j = -1) (hw196 : ∀ j : Nat, j < 8 → a 196 j = -1) (hw143 : ∀ j : Nat, a 143 j = 0) (hw197 : ∀ j : Nat, a 197 j = 0) (hw144 : ∀ j : Nat, j < 8 → a 144 j = -1) (hw171 : ∀ j : Nat, (j = 0 → a 171 j = 5) ∧ (j = 1 → a 171 j = 10) ∧ (j = 2 → a 171 j = 3) ∧ (j = 3 → a 171 j = 60) ∧ (j = 4 → a 171 j = 2)) : jt (jxX E d 305 246 [some (.inr (.inr (.inl 3000))), some (.inr (.inr (.inl 0))), some (.inr (.inr (.inl 146))), some (.inl y3)] [] (jxSH, a, b)) (fun v _ _ => v = [.inl 1]) := by
  refine jt_eq (bq_law_246 E d y3 a b) ?_
  refine jt_bif (Nat.ble_eq_true_of_le (by omega)) ?_
  have h17_ : jxw (y3 + 1) = y3 + 1 := jxw_id (by omega) (by omega)
  refine jt_grd (by omega) ?_
  refine jt_bif (Nat.ble_eq_true_of_le (by omega)) ?_
  have h18_ : jxw (y3 + 2) = y3 + 2 := jxw_id (by omega) (by omega)
  refine jt_grd (by omega) ?_
  refine jt_bif (Nat.ble_eq_true_of_le (by omega)) ?_
  have h19_ : jxw (y3 + 3) = y3 + 3 := jxw_id (by omega) (by omega)
  refine jt_grd (by omega) ?_
  refine jt_bI (sp_X11_member E d (jd_le hd rfl) (E.2 ((jxw (y3 + 1)).toNat)) (E.2 ((jxw (y3 + 2)).toNat)) (E.2 ((jxw (y3 + 3)).toNat)) a b hv) (fun r20_ a20_ b20_ h20_ => ?_)
  obtain ⟨hv20_, hf20_, rfl, hq20_0, hq20_1, hq20_2⟩ := h20_
  have h21_ := iv_get hv (k := 4) (j := 6) (l := 0) (u := 40) rfl
  have h22_ := iv_get hv20_ (k := 4) (j := 6) (l := 0) (u := 40) rfl
  refine jt_bif (Nat.ble_eq_true_of_le (by omega)) ?_
  refine jt_grd (by omega) ?_
  refine jt_bif (Nat.ble_eq_true_of_le (by omega)) ?_
  refine jt_grd (by omega) ?_
  refine jt_bif (Nat.ble_eq_true_of_le (by omega)) ?_
  refine jt_grd (by omega) ?_
  refine jt_bI (sp_X12_member E d (jd_le hd rfl) (E.2 ((jxw (y3 + 1)).toNat)) (E.2 ((jxw (y3 + 2)).toNat)) (E.2 ((jxw (y3 + 3)).toNat)) a20_ b hv20_) (fun r23_ a23_ b23_ h23_ => ?_)
  obtain ⟨hv23_, hf23_, rfl, hq23_0, hq23_1, hq23_2⟩ := h23_
  have h24_ := iv_get hv20_ (k := 146) (j := 2) (l := 0) (u := 40) rfl
  have h25_ : a20_ 146 2 = a 146 2 := hf20_ 146 2 rfl
  have h26_ := iv_get hv (k := 146) (j := 2) (l := 0) (u := 40) rfl
  have h27_ := iv_get hv23_ (k := 146) (j := 2) (l := 0) (u := 40) rfl
  refine jt_ite (fun c28_ => ?_) (fun c28_ => ?_)
  ·
    exact hnext a23_ b 
  ·
    exact absurd (by omega : False) id
theorem lw_op289 (E : jxE) (d : Nat) (hd : Nat.ble 60 (d + 1) = true) (hL : E.1 ≤ 6) (y3 : Int) (hy0 : y3 = 0) (hy1 : y3 + 6 ≤ E.1) (hnext : ∀ (a b : Nat → Nat → Int), jt (jxX E d 305 1189 [some (.inr (.inr (.inl 3000))), some (.inr (.inr (.inl 0))), some (.inr (.inr (.inl 146))), some (.inl y3)] [] (jxSH, a, b)) (fun v _ _ => v = [.inl 1])) (a b : Nat → Nat → Int) (hv : iv a) (hg0 : WFW a) (hg1 : SV a) (hg2 : OC a) (hg3 : FO a) (hg4 : FW a) (hg5 : FARR a) (hr0 : a 0 0 = 0) (hr1 : a 146 0 = 0) (hr2 : a 4 6 = 0) (hr3 : a 146 2 = 0) (hr4 : a 2 1 = 0) (hr5 : a 146 22 = 0) (hr6 : a 0 9 = 0) (hr7 : a 146 42 = 0) (hr8 : a 58 8 = 0) (hr9 : a 146 9 = 0) (hr10 : a 58 12 = 0) (hr11 : a 146 17 = 0) (hr12 : a 83 6 = 0) (hr13 : a 146 49 = 0) (hr14 : a 83 7 = 0) (hr15 : a 146 55 = 0) (hr16 : a 90 12 = 0) (hr17 : a 146 64 = 0) (hr18 : a 105 5 = 0) (hr19 : a 146 68 = 0) (hr20 : a 146 75 = 0) (hr21 : a 56 0 = 5) (hr22 : a 56 1 = 10) (hr23 : a 56 2 = 3) (hr24 : a 56 3 = 60) (hr25 : a 56 4 = 2) (hw142 : ∀ j : Nat, j < 8 → a 142 j = -1) (hw196 : ∀ j : Nat, j < 8 → a 196 j = -1) (hw143 : ∀ j : Nat, a 143 j = 0) (hw197 : ∀ j : Nat, a 197 j = 0) (hw144 : ∀ j : Nat, j < 8 → a 144 j = -1) (hw171 : ∀ j : Nat, (j = 0 → a 171 j = 5) ∧ (j = 1 → a 171 j = 10) ∧ (j = 2 → a 171 j = 3) ∧ (j = 3 → a 171 j = 60) ∧ (j = 4 → a 171 j = 2)) : jt (jxX E d 305 289 [some (.inr (.inr (.inl 3000))), some (.inr (.inr (.inl 0))), some (.inr (.inr (.inl 146))), some (.inl y3)] [] (jxSH, a, b)) (fun v _ _ => v = [.inl 1]) := by
  refine jt_eq (bq_law_289 E d y3 a b) ?_
  refine jt_bif (Nat.ble_eq_true_of_le (by omega)) ?_
  have h29_ : jxw (y3 + 1) = y3 + 1 := jxw_id (by omega) (by omega)
  refine jt_grd (by omega) ?_
  refine jt_bI (sp_X11_leave E d (jd_le hd rfl) (E.2 ((jxw (y3 + 1)).toNat)) a b hv) (fun r30_ a30_ b30_ h30_ => ?_)
  obtain ⟨hv30_, hf30_, rfl, hq30_0, hq30_1, hq30_2⟩ := h30_
  have h31_ := iv_get hv (k := 4) (j := 6) (l := 0) (u := 40) rfl
  refine jt_bif (Nat.ble_eq_true_of_le (by omega)) ?_
  refine jt_grd (by omega) ?_
  refine jt_bI (sp_X12_leave E d (jd_le hd rfl) (E.2 ((jxw (y3 + 1)).toNat)) a30_ b hv30_ (OC_fr hg2 hf30_ rfl rfl (fun _ => rfl) (fun _ => rfl) (fun _ => rfl) (fun _ => rfl) (fun _ => rfl))) (fun r32_ a32_ b32_ h32_ => ?_)
  obtain ⟨hv32_, hf32_, rfl, hq32_0, hq32_1, hq32_2, hq32_3⟩ := h32_
  have h33_ := iv_get hv30_ (k := 146) (j := 2) (l := 0) (u := 40) rfl
  have h34_ : a30_ 146 2 = a 146 2 := hf30_ 146 2 rfl
  have h35_ := iv_get hv (k := 146) (j := 2) (l := 0) (u := 40) rfl
  refine jt_ite (fun c36_ => ?_) (fun c36_ => ?_)
  ·
    exact hnext a32_ b 
  ·
    exact absurd (by omega : False) id
theorem lw_op312 (E : jxE) (d : Nat) (hd : Nat.ble 60 (d + 1) = true) (hL : E.1 ≤ 6) (y3 : Int) (hy0 : y3 = 0) (hy1 : y3 + 6 ≤ E.1) (hnext : ∀ (a b : Nat → Nat → Int), jt (jxX E d 305 1189 [some (.inr (.inr (.inl 3000))), some (.inr (.inr (.inl 0))), some (.inr (.inr (.inl 146))), some (.inl y3)] [] (jxSH, a, b)) (fun v _ _ => v = [.inl 1])) (a b : Nat → Nat → Int) (hv : iv a) (hg0 : WFW a) (hg1 : SV a) (hg2 : OC a) (hg3 : FO a) (hg4 : FW a) (hg5 : FARR a) (hr0 : a 0 0 = 0) (hr1 : a 146 0 = 0) (hr2 : a 4 6 = 0) (hr3 : a 146 2 = 0) (hr4 : a 2 1 = 0) (hr5 : a 146 22 = 0) (hr6 : a 0 9 = 0) (hr7 : a 146 42 = 0) (hr8 : a 58 8 = 0) (hr9 : a 146 9 = 0) (hr10 : a 58 12 = 0) (hr11 : a 146 17 = 0) (hr12 : a 83 6 = 0) (hr13 : a 146 49 = 0) (hr14 : a 83 7 = 0) (hr15 : a 146 55 = 0) (hr16 : a 90 12 = 0) (hr17 : a 146 64 = 0) (hr18 : a 105 5 = 0) (hr19 : a 146 68 = 0) (hr20 : a 146 75 = 0) (hr21 : a 56 0 = 5) (hr22 : a 56 1 = 10) (hr23 : a 56 2 = 3) (hr24 : a 56 3 = 60) (hr25 : a 56 4 = 2) (hw142 : ∀ j : Nat, j < 8 → a 142 j = -1) (hw196 : ∀ j : Nat, j < 8 → a 196 j = -1) (hw143 : ∀ j : Nat, a 143 j = 0) (hw197 : ∀ j : Nat, a 197 j = 0) (hw144 : ∀ j : Nat, j < 8 → a 144 j = -1) (hw171 : ∀ j : Nat, (j = 0 → a 171 j = 5) ∧ (j = 1 → a 171 j = 10) ∧ (j = 2 → a 171 j = 3) ∧ (j = 3 → a 171 j = 60) ∧ (j = 4 → a 171 j = 2)) : jt (jxX E d 305 312 [some (.inr (.inr (.inl 3000))), some (.inr (.inr (.inl 0))), some (.inr (.inr (.inl 146))), some (.inl y3)] [] (jxSH, a, b)) (fun v _ _ => v = [.inl 1]) := by
  refine jt_eq (bq_law_312 E d y3 a b) ?_
  refine jt_bif (Nat.ble_eq_true_of_le (by omega)) ?_
  have h37_ : jxw (y3 + 1) = y3 + 1 := jxw_id (by omega) (by omega)
  refine jt_grd (by omega) ?_
  refine jt_bif (Nat.ble_eq_true_of_le (by omega)) ?_
  have h38_ : jxw (y3 + 2) = y3 + 2 := jxw_id (by omega) (by omega)
  refine jt_grd (by omega) ?_
  refine jt_bif (Nat.ble_eq_true_of_le (by omega)) ?_
  have h39_ : jxw (y3 + 3) = y3 + 3 := jxw_id (by omega) (by omega)
  refine jt_grd (by omega) ?_
  refine jt_bif (Nat.ble_eq_true_of_le (by omega)) ?_
  have h40_ : jxw (y3 + 4) = y3 + 4 := jxw_id (by omega) (by omega)
  refine jt_grd (by omega) ?_
  refine jt_bif (Nat.ble_eq_true_of_le (by omega)) ?_
  have h41_ : jxw (y3 + 5) = y3 + 5 := jxw_id (by omega) (by omega)
  refine jt_grd (by omega) ?_
  refine jt_bI (sp_X11_feed E d (jd_le hd rfl) (E.2 ((jxw (y3 + 1)).toNat)) (E.2 ((jxw (y3 + 2)).toNat)) (E.2 ((jxw (y3 + 3)).toNat)) (E.2 ((jxw (y3 + 4)).toNat)) (E.2 ((jxw (y3 + 5)).toNat)) a b hv) (fun r42_ a42_ b42_ h42_ => ?_)
  obtain ⟨hv42_, hf42_, rfl, hq42_0⟩ := h42_
  have h43_ := iv_get hv (k := 2) (j := 1) (l := 0) (u := 200) rfl
  have h44_ := iv_get hv42_ (k := 2) (j := 1) (l := 0) (u := 200) rfl
  refine jt_bif (Nat.ble_eq_true_of_le (by omega)) ?_
  refine jt_grd (by omega) ?_
  refine jt_bif (Nat.ble_eq_true_of_le (by omega)) ?_
  refine jt_grd (by omega) ?_
  refine jt_bif (Nat.ble_eq_true_of_le (by omega)) ?_
  refine jt_grd (by omega) ?_
  refine jt_bif (Nat.ble_eq_true_of_le (by omega)) ?_
  refine jt_grd (by omega) ?_
  refine jt_bif (Nat.ble_eq_true_of_le (by omega)) ?_
  refine jt_grd (by omega) ?_
  refine jt_bI (sp_X12_feed E d (jd_le hd rfl) (E.2 ((jxw (y3 + 1)).toNat)) (E.2 ((jxw (y3 + 2)).toNat)) (E.2 ((jxw (y3 + 3)).toNat)) (E.2 ((jxw (y3 + 4)).toNat)) (E.2 ((jxw (y3 + 5)).toNat)) a42_ b hv42_) (fun r45_ a45_ b45_ h45_ => ?_)
  obtain ⟨hv45_, hf45_, rfl, hq45_0⟩ := h45_
  have h46_ := iv_get hv42_ (k := 146) (j := 22) (l := 0) (u := 200) rfl
  have h47_ : a42_ 146 22 = a 146 22 := hf42_ 146 22 rfl
  have h48_ := iv_get hv (k := 146) (j := 22) (l := 0) (u := 200) rfl
  have h49_ := iv_get hv45_ (k := 146) (j := 22) (l := 0) (u := 200) rfl
  refine jt_ite (fun c50_ => ?_) (fun c50_ => ?_)
  ·
    exact hnext a45_ b 
  ·
    exact absurd (by omega : False) id
theorem lw_op375 (E : jxE) (d : Nat) (hd : Nat.ble 60 (d + 1) = true) (hL : E.1 ≤ 6) (y3 : Int) (hy0 : y3 = 0) (hy1 : y3 + 6 ≤ E.1) (hnext : ∀ (a b : Nat → Nat → Int), jt (jxX E d 305 1189 [some (.inr (.inr (.inl 3000))), some (.inr (.inr (.inl 0))), some (.inr (.inr (.inl 146))), some (.inl y3)] [] (jxSH, a, b)) (fun v _ _ => v = [.inl 1])) (a b : Nat → Nat → Int) (hv : iv a) (hg0 : WFW a) (hg1 : SV a) (hg2 : OC a) (hg3 : FO a) (hg4 : FW a) (hg5 : FARR a) (hr0 : a 0 0 = 0) (hr1 : a 146 0 = 0) (hr2 : a 4 6 = 0) (hr3 : a 146 2 = 0) (hr4 : a 2 1 = 0) (hr5 : a 146 22 = 0) (hr6 : a 0 9 = 0) (hr7 : a 146 42 = 0) (hr8 : a 58 8 = 0) (hr9 : a 146 9 = 0) (hr10 : a 58 12 = 0) (hr11 : a 146 17 = 0) (hr12 : a 83 6 = 0) (hr13 : a 146 49 = 0) (hr14 : a 83 7 = 0) (hr15 : a 146 55 = 0) (hr16 : a 90 12 = 0) (hr17 : a 146 64 = 0) (hr18 : a 105 5 = 0) (hr19 : a 146 68 = 0) (hr20 : a 146 75 = 0) (hr21 : a 56 0 = 5) (hr22 : a 56 1 = 10) (hr23 : a 56 2 = 3) (hr24 : a 56 3 = 60) (hr25 : a 56 4 = 2) (hw142 : ∀ j : Nat, j < 8 → a 142 j = -1) (hw196 : ∀ j : Nat, j < 8 → a 196 j = -1) (hw143 : ∀ j : Nat, a 143 j = 0) (hw197 : ∀ j : Nat, a 197 j = 0) (hw144 : ∀ j : Nat, j < 8 → a 144 j = -1) (hw171 : ∀ j : Nat, (j = 0 → a 171 j = 5) ∧ (j = 1 → a 171 j = 10) ∧ (j = 2 → a 171 j = 3) ∧ (j = 3 → a 171 j = 60) ∧ (j = 4 → a 171 j = 2)) : jt (jxX E d 305 375 [some (.inr (.inr (.inl 3000))), some (.inr (.inr (.inl 0))), some (.inr (.inr (.inl 146))), some (.inl y3)] [] (jxSH, a, b)) (fun v _ _ => v = [.inl 1]) := by
  refine jt_eq (bq_law_375 E d y3 a b) ?_
  refine jt_bif (Nat.ble_eq_true_of_le (by omega)) ?_
  have h51_ : jxw (y3 + 1) = y3 + 1 := jxw_id (by omega) (by omega)
  refine jt_grd (by omega) ?_
  refine jt_bI (sp_X11_end E d (jd_le hd rfl) (E.2 ((jxw (y3 + 1)).toNat)) a b hv) (fun r52_ a52_ b52_ h52_ => ?_)
  obtain ⟨hv52_, hf52_, rfl, hq52_0⟩ := h52_
  have h53_ := iv_get hv (k := 2) (j := 1) (l := 0) (u := 200) rfl
  have h54_ := iv_get hv52_ (k := 2) (j := 1) (l := 0) (u := 200) rfl
  refine jt_bif (Nat.ble_eq_true_of_le (by omega)) ?_
  refine jt_grd (by omega) ?_
  refine jt_bI (sp_X12_end E d (jd_le hd rfl) (E.2 ((jxw (y3 + 1)).toNat)) a52_ b hv52_) (fun r55_ a55_ b55_ h55_ => ?_)
  obtain ⟨hv55_, hf55_, rfl, hq55_0⟩ := h55_
  have h56_ := iv_get hv52_ (k := 146) (j := 22) (l := 0) (u := 200) rfl
  have h57_ : a52_ 146 22 = a 146 22 := hf52_ 146 22 rfl
  have h58_ := iv_get hv (k := 146) (j := 22) (l := 0) (u := 200) rfl
  have h59_ := iv_get hv55_ (k := 146) (j := 22) (l := 0) (u := 200) rfl
  refine jt_ite (fun c60_ => ?_) (fun c60_ => ?_)
  ·
    exact hnext a55_ b 
  ·
    exact absurd (by omega : False) id
theorem lw_op398 (E : jxE) (d : Nat) (hd : Nat.ble 60 (d + 1) = true) (hL : E.1 ≤ 6) (y3 : Int) (hy0 : y3 = 0) (hy1 : y3 + 6 ≤ E.1) (hnext : ∀ (a b : Nat → Nat → Int), jt (jxX E d 305 1189 [some (.inr (.inr (.inl 3000))), some (.inr (.inr (.inl 0))), some (.inr (.inr (.inl 146))), some (.inl y3)] [] (jxSH, a, b)) (fun v _ _ => v = [.inl 1])) (a b : Nat → Nat → Int) (hv : iv a) (hg0 : WFW a) (hg1 : SV a) (hg2 : OC a) (hg3 : FO a) (hg4 : FW a) (hg5 : FARR a) (hr0 : a 0 0 = 0) (hr1 : a 146 0 = 0) (hr2 : a 4 6 = 0) (hr3 : a 146 2 = 0) (hr4 : a 2 1 = 0) (hr5 : a 146 22 = 0) (hr6 : a 0 9 = 0) (hr7 : a 146 42 = 0) (hr8 : a 58 8 = 0) (hr9 : a 146 9 = 0) (hr10 : a 58 12 = 0) (hr11 : a 146 17 = 0) (hr12 : a 83 6 = 0) (hr13 : a 146 49 = 0) (hr14 : a 83 7 = 0) (hr15 : a 146 55 = 0) (hr16 : a 90 12 = 0) (hr17 : a 146 64 = 0) (hr18 : a 105 5 = 0) (hr19 : a 146 68 = 0) (hr20 : a 146 75 = 0) (hr21 : a 56 0 = 5) (hr22 : a 56 1 = 10) (hr23 : a 56 2 = 3) (hr24 : a 56 3 = 60) (hr25 : a 56 4 = 2) (hw142 : ∀ j : Nat, j < 8 → a 142 j = -1) (hw196 : ∀ j : Nat, j < 8 → a 196 j = -1) (hw143 : ∀ j : Nat, a 143 j = 0) (hw197 : ∀ j : Nat, a 197 j = 0) (hw144 : ∀ j : Nat, j < 8 → a 144 j = -1) (hw171 : ∀ j : Nat, (j = 0 → a 171 j = 5) ∧ (j = 1 → a 171 j = 10) ∧ (j = 2 → a 171 j = 3) ∧ (j = 3 → a 171 j = 60) ∧ (j = 4 → a 171 j = 2)) : jt (jxX E d 305 398 [some (.inr (.inr (.inl 3000))), some (.inr (.inr (.inl 0))), some (.inr (.inr (.inl 146))), some (.inl y3)] [] (jxSH, a, b)) (fun v _ _ => v = [.inl 1]) := by
  refine jt_eq (bq_law_398 E d y3 a b) ?_
  refine jt_bif (Nat.ble_eq_true_of_le (by omega)) ?_
  have h61_ : jxw (y3 + 1) = y3 + 1 := jxw_id (by omega) (by omega)
  refine jt_grd (by omega) ?_
  refine jt_bI (sp_X11_wish E d (jd_le hd rfl) (E.2 ((jxw (y3 + 1)).toNat)) a b hv) (fun r62_ a62_ b62_ h62_ => ?_)
  obtain ⟨hv62_, hf62_, rfl, hq62_0⟩ := h62_
  have h63_ := iv_get hv (k := 4) (j := 6) (l := 0) (u := 40) rfl
  refine jt_bif (Nat.ble_eq_true_of_le (by omega)) ?_
  refine jt_grd (by omega) ?_
  refine jt_bI (sp_X12_wish E d (jd_le hd rfl) (E.2 ((jxw (y3 + 1)).toNat)) a62_ b hv62_ (WFW_fr hg0 hf62_ (fun _ => rfl) (fun _ => rfl))) (fun r64_ a64_ b64_ h64_ => ?_)
  obtain ⟨hv64_, hf64_, rfl, hq64_0, hq64_1⟩ := h64_
  have h65_ := iv_get hv62_ (k := 146) (j := 2) (l := 0) (u := 40) rfl
  have h66_ : a62_ 146 2 = a 146 2 := hf62_ 146 2 rfl
  have h67_ := iv_get hv (k := 146) (j := 2) (l := 0) (u := 40) rfl
  refine jt_ite (fun c68_ => ?_) (fun c68_ => ?_)
  ·
    exact hnext a64_ b 
  ·
    exact absurd (by omega : False) id
theorem lw_op421 (E : jxE) (d : Nat) (hd : Nat.ble 60 (d + 1) = true) (hL : E.1 ≤ 6) (y3 : Int) (hy0 : y3 = 0) (hy1 : y3 + 6 ≤ E.1) (hnext : ∀ (a b : Nat → Nat → Int), jt (jxX E d 305 1189 [some (.inr (.inr (.inl 3000))), some (.inr (.inr (.inl 0))), some (.inr (.inr (.inl 146))), some (.inl y3)] [] (jxSH, a, b)) (fun v _ _ => v = [.inl 1])) (a b : Nat → Nat → Int) (hv : iv a) (hg0 : WFW a) (hg1 : SV a) (hg2 : OC a) (hg3 : FO a) (hg4 : FW a) (hg5 : FARR a) (hr0 : a 0 0 = 0) (hr1 : a 146 0 = 0) (hr2 : a 4 6 = 0) (hr3 : a 146 2 = 0) (hr4 : a 2 1 = 0) (hr5 : a 146 22 = 0) (hr6 : a 0 9 = 0) (hr7 : a 146 42 = 0) (hr8 : a 58 8 = 0) (hr9 : a 146 9 = 0) (hr10 : a 58 12 = 0) (hr11 : a 146 17 = 0) (hr12 : a 83 6 = 0) (hr13 : a 146 49 = 0) (hr14 : a 83 7 = 0) (hr15 : a 146 55 = 0) (hr16 : a 90 12 = 0) (hr17 : a 146 64 = 0) (hr18 : a 105 5 = 0) (hr19 : a 146 68 = 0) (hr20 : a 146 75 = 0) (hr21 : a 56 0 = 5) (hr22 : a 56 1 = 10) (hr23 : a 56 2 = 3) (hr24 : a 56 3 = 60) (hr25 : a 56 4 = 2) (hw142 : ∀ j : Nat, j < 8 → a 142 j = -1) (hw196 : ∀ j : Nat, j < 8 → a 196 j = -1) (hw143 : ∀ j : Nat, a 143 j = 0) (hw197 : ∀ j : Nat, a 197 j = 0) (hw144 : ∀ j : Nat, j < 8 → a 144 j = -1) (hw171 : ∀ j : Nat, (j = 0 → a 171 j = 5) ∧ (j = 1 → a 171 j = 10) ∧ (j = 2 → a 171 j = 3) ∧ (j = 3 → a 171 j = 60) ∧ (j = 4 → a 171 j = 2)) : jt (jxX E d 305 421 [some (.inr (.inr (.inl 3000))), some (.inr (.inr (.inl 0))), some (.inr (.inr (.inl 146))), some (.inl y3)] [] (jxSH, a, b)) (fun v _ _ => v = [.inl 1]) := by
  refine jt_eq (bq_law_421 E d y3 a b) ?_
  refine jt_bif (Nat.ble_eq_true_of_le (by omega)) ?_
  have h69_ : jxw (y3 + 1) = y3 + 1 := jxw_id (by omega) (by omega)
  refine jt_grd (by omega) ?_
  refine jt_bif (Nat.ble_eq_true_of_le (by omega)) ?_
  have h70_ : jxw (y3 + 2) = y3 + 2 := jxw_id (by omega) (by omega)
  refine jt_grd (by omega) ?_
  refine jt_bI (sp_X11_meets E d (jd_le hd rfl) (E.2 ((jxw (y3 + 1)).toNat)) (E.2 ((jxw (y3 + 2)).toNat)) a b hv) (fun r71_ a71_ b71_ h71_ => ?_)
  obtain ⟨rfl, rfl, hq71_0⟩ := h71_
  have h72_ := iv_get hv (k := 4) (j := 6) (l := 0) (u := 40) rfl
  refine jt_bif (Nat.ble_eq_true_of_le (by omega)) ?_
  refine jt_grd (by omega) ?_
  refine jt_bif (Nat.ble_eq_true_of_le (by omega)) ?_
  refine jt_grd (by omega) ?_
  refine jt_bI (sp_X12_meets E d (jd_le hd rfl) (E.2 ((jxw (y3 + 1)).toNat)) (E.2 ((jxw (y3 + 2)).toNat)) a b hv hg0) (fun r73_ a73_ b73_ h73_ => ?_)
  obtain ⟨hv73_, hf73_, rfl, hq73_0⟩ := h73_
  have h74_ := iv_get hv (k := 146) (j := 2) (l := 0) (u := 40) rfl
  refine jt_ite (fun c75_ => ?_) (fun c75_ => ?_)
  ·
    exact hnext a73_ b 
  ·
    exact absurd (by omega : False) id
theorem lw_op454 (E : jxE) (d : Nat) (hd : Nat.ble 60 (d + 1) = true) (hL : E.1 ≤ 6) (y3 : Int) (hy0 : y3 = 0) (hy1 : y3 + 6 ≤ E.1) (hnext : ∀ (a b : Nat → Nat → Int), jt (jxX E d 305 1189 [some (.inr (.inr (.inl 3000))), some (.inr (.inr (.inl 0))), some (.inr (.inr (.inl 146))), some (.inl y3)] [] (jxSH, a, b)) (fun v _ _ => v = [.inl 1])) (a b : Nat → Nat → Int) (hv : iv a) (hg0 : WFW a) (hg1 : SV a) (hg2 : OC a) (hg3 : FO a) (hg4 : FW a) (hg5 : FARR a) (hr0 : a 0 0 = 0) (hr1 : a 146 0 = 0) (hr2 : a 4 6 = 0) (hr3 : a 146 2 = 0) (hr4 : a 2 1 = 0) (hr5 : a 146 22 = 0) (hr6 : a 0 9 = 0) (hr7 : a 146 42 = 0) (hr8 : a 58 8 = 0) (hr9 : a 146 9 = 0) (hr10 : a 58 12 = 0) (hr11 : a 146 17 = 0) (hr12 : a 83 6 = 0) (hr13 : a 146 49 = 0) (hr14 : a 83 7 = 0) (hr15 : a 146 55 = 0) (hr16 : a 90 12 = 0) (hr17 : a 146 64 = 0) (hr18 : a 105 5 = 0) (hr19 : a 146 68 = 0) (hr20 : a 146 75 = 0) (hr21 : a 56 0 = 5) (hr22 : a 56 1 = 10) (hr23 : a 56 2 = 3) (hr24 : a 56 3 = 60) (hr25 : a 56 4 = 2) (hw142 : ∀ j : Nat, j < 8 → a 142 j = -1) (hw196 : ∀ j : Nat, j < 8 → a 196 j = -1) (hw143 : ∀ j : Nat, a 143 j = 0) (hw197 : ∀ j : Nat, a 197 j = 0) (hw144 : ∀ j : Nat, j < 8 → a 144 j = -1) (hw171 : ∀ j : Nat, (j = 0 → a 171 j = 5) ∧ (j = 1 → a 171 j = 10) ∧ (j = 2 → a 171 j = 3) ∧ (j = 3 → a 171 j = 60) ∧ (j = 4 → a 171 j = 2)) : jt (jxX E d 305 454 [some (.inr (.inr (.inl 3000))), some (.inr (.inr (.inl 0))), some (.inr (.inr (.inl 146))), some (.inl y3)] [] (jxSH, a, b)) (fun v _ _ => v = [.inl 1]) := by
  refine jt_eq (bq_law_454 E d y3 a b) ?_
  refine jt_bI (sp_X11_rules E d (jd_le hd rfl) a b hv) (fun r76_ a76_ b76_ h76_ => ?_)
  obtain ⟨hv76_, hf76_, rfl, hq76_0⟩ := h76_
  have h77_ := iv_get hv (k := 2) (j := 1) (l := 0) (u := 200) rfl
  refine jt_bI (sp_X12_rules E d (jd_le hd rfl) a76_ b hv76_) (fun r78_ a78_ b78_ h78_ => ?_)
  obtain ⟨hv78_, hf78_, rfl⟩ := h78_
  refine jt_ite (fun c79_ => ?_) (fun c79_ => ?_)
  ·
    exact hnext a78_ b 
  ·
    exact absurd (by omega : False) id
theorem lw_op467 (E : jxE) (d : Nat) (hd : Nat.ble 60 (d + 1) = true) (hL : E.1 ≤ 6) (y3 : Int) (hy0 : y3 = 0) (hy1 : y3 + 6 ≤ E.1) (hnext : ∀ (a b : Nat → Nat → Int), jt (jxX E d 305 1189 [some (.inr (.inr (.inl 3000))), some (.inr (.inr (.inl 0))), some (.inr (.inr (.inl 146))), some (.inl y3)] [] (jxSH, a, b)) (fun v _ _ => v = [.inl 1])) (a b : Nat → Nat → Int) (hv : iv a) (hg0 : WFW a) (hg1 : SV a) (hg2 : OC a) (hg3 : FO a) (hg4 : FW a) (hg5 : FARR a) (hr0 : a 0 0 = 0) (hr1 : a 146 0 = 0) (hr2 : a 4 6 = 0) (hr3 : a 146 2 = 0) (hr4 : a 2 1 = 0) (hr5 : a 146 22 = 0) (hr6 : a 0 9 = 0) (hr7 : a 146 42 = 0) (hr8 : a 58 8 = 0) (hr9 : a 146 9 = 0) (hr10 : a 58 12 = 0) (hr11 : a 146 17 = 0) (hr12 : a 83 6 = 0) (hr13 : a 146 49 = 0) (hr14 : a 83 7 = 0) (hr15 : a 146 55 = 0) (hr16 : a 90 12 = 0) (hr17 : a 146 64 = 0) (hr18 : a 105 5 = 0) (hr19 : a 146 68 = 0) (hr20 : a 146 75 = 0) (hr21 : a 56 0 = 5) (hr22 : a 56 1 = 10) (hr23 : a 56 2 = 3) (hr24 : a 56 3 = 60) (hr25 : a 56 4 = 2) (hw142 : ∀ j : Nat, j < 8 → a 142 j = -1) (hw196 : ∀ j : Nat, j < 8 → a 196 j = -1) (hw143 : ∀ j : Nat, a 143 j = 0) (hw197 : ∀ j : Nat, a 197 j = 0) (hw144 : ∀ j : Nat, j < 8 → a 144 j = -1) (hw171 : ∀ j : Nat, (j = 0 → a 171 j = 5) ∧ (j = 1 → a 171 j = 10) ∧ (j = 2 → a 171 j = 3) ∧ (j = 3 → a 171 j = 60) ∧ (j = 4 → a 171 j = 2)) : jt (jxX E d 305 467 [some (.inr (.inr (.inl 3000))), some (.inr (.inr (.inl 0))), some (.inr (.inr (.inl 146))), some (.inl y3)] [] (jxSH, a, b)) (fun v _ _ => v = [.inl 1]) := by
  refine jt_eq (bq_law_467 E d y3 a b) ?_
  refine jt_bif (Nat.ble_eq_true_of_le (by omega)) ?_
  have h80_ : jxw (y3 + 1) = y3 + 1 := jxw_id (by omega) (by omega)
  refine jt_grd (by omega) ?_
  refine jt_bI (sp_X11_ask E d (jd_le hd rfl) (E.2 ((jxw (y3 + 1)).toNat)) a b hv) (fun r81_ a81_ b81_ h81_ => ?_)
  obtain ⟨hv81_, hf81_, rfl, hq81_0⟩ := h81_
  have h82_ := iv_get hv (k := 4) (j := 6) (l := 0) (u := 40) rfl
  refine jt_bif (Nat.ble_eq_true_of_le (by omega)) ?_
  refine jt_grd (by omega) ?_
  refine jt_bI (sp_X12_ask E d (jd_le hd rfl) (E.2 ((jxw (y3 + 1)).toNat)) a81_ b hv81_ (WFW_fr hg0 hf81_ (fun _ => rfl) (fun _ => rfl)) (OC_fr hg2 hf81_ rfl rfl (fun _ => rfl) (fun _ => rfl) (fun _ => rfl) (fun _ => rfl) (fun _ => rfl))) (fun r83_ a83_ b83_ h83_ => ?_)
  obtain ⟨hv83_, hf83_, rfl, hq83_0, hq83_1⟩ := h83_
  have h84_ := iv_get hv81_ (k := 146) (j := 2) (l := 0) (u := 40) rfl
  have h85_ : a81_ 146 2 = a 146 2 := hf81_ 146 2 rfl
  have h86_ := iv_get hv (k := 146) (j := 2) (l := 0) (u := 40) rfl
  refine jt_ite (fun c87_ => ?_) (fun c87_ => ?_)
  ·
    exact hnext a83_ b 
  ·
    exact absurd (by omega : False) id
theorem lw_op490 (E : jxE) (d : Nat) (hd : Nat.ble 60 (d + 1) = true) (hL : E.1 ≤ 6) (y3 : Int) (hy0 : y3 = 0) (hy1 : y3 + 6 ≤ E.1) (hnext : ∀ (a b : Nat → Nat → Int), jt (jxX E d 305 1189 [some (.inr (.inr (.inl 3000))), some (.inr (.inr (.inl 0))), some (.inr (.inr (.inl 146))), some (.inl y3)] [] (jxSH, a, b)) (fun v _ _ => v = [.inl 1])) (a b : Nat → Nat → Int) (hv : iv a) (hg0 : WFW a) (hg1 : SV a) (hg2 : OC a) (hg3 : FO a) (hg4 : FW a) (hg5 : FARR a) (hr0 : a 0 0 = 0) (hr1 : a 146 0 = 0) (hr2 : a 4 6 = 0) (hr3 : a 146 2 = 0) (hr4 : a 2 1 = 0) (hr5 : a 146 22 = 0) (hr6 : a 0 9 = 0) (hr7 : a 146 42 = 0) (hr8 : a 58 8 = 0) (hr9 : a 146 9 = 0) (hr10 : a 58 12 = 0) (hr11 : a 146 17 = 0) (hr12 : a 83 6 = 0) (hr13 : a 146 49 = 0) (hr14 : a 83 7 = 0) (hr15 : a 146 55 = 0) (hr16 : a 90 12 = 0) (hr17 : a 146 64 = 0) (hr18 : a 105 5 = 0) (hr19 : a 146 68 = 0) (hr20 : a 146 75 = 0) (hr21 : a 56 0 = 5) (hr22 : a 56 1 = 10) (hr23 : a 56 2 = 3) (hr24 : a 56 3 = 60) (hr25 : a 56 4 = 2) (hw142 : ∀ j : Nat, j < 8 → a 142 j = -1) (hw196 : ∀ j : Nat, j < 8 → a 196 j = -1) (hw143 : ∀ j : Nat, a 143 j = 0) (hw197 : ∀ j : Nat, a 197 j = 0) (hw144 : ∀ j : Nat, j < 8 → a 144 j = -1) (hw171 : ∀ j : Nat, (j = 0 → a 171 j = 5) ∧ (j = 1 → a 171 j = 10) ∧ (j = 2 → a 171 j = 3) ∧ (j = 3 → a 171 j = 60) ∧ (j = 4 → a 171 j = 2)) : jt (jxX E d 305 490 [some (.inr (.inr (.inl 3000))), some (.inr (.inr (.inl 0))), some (.inr (.inr (.inl 146))), some (.inl y3)] [] (jxSH, a, b)) (fun v _ _ => v = [.inl 1]) := by
  refine jt_eq (bq_law_490 E d y3 a b) ?_
  refine jt_bif (Nat.ble_eq_true_of_le (by omega)) ?_
  have h88_ : jxw (y3 + 1) = y3 + 1 := jxw_id (by omega) (by omega)
  refine jt_grd (by omega) ?_
  refine jt_bif (Nat.ble_eq_true_of_le (by omega)) ?_
  have h89_ : jxw (y3 + 2) = y3 + 2 := jxw_id (by omega) (by omega)
  refine jt_grd (by omega) ?_
  refine jt_bI (sp_X11_may E d (jd_le hd rfl) (E.2 ((jxw (y3 + 1)).toNat)) (E.2 ((jxw (y3 + 2)).toNat)) a b hv) (fun r90_ a90_ b90_ h90_ => ?_)
  obtain ⟨hv90_, hf90_, rfl, hq90_0⟩ := h90_
  have h91_ := iv_get hv (k := 4) (j := 6) (l := 0) (u := 40) rfl
  refine jt_bif (Nat.ble_eq_true_of_le (by omega)) ?_
  refine jt_grd (by omega) ?_
  refine jt_bif (Nat.ble_eq_true_of_le (by omega)) ?_
  refine jt_grd (by omega) ?_
  refine jt_bI (sp_X12_may E d (jd_le hd rfl) (E.2 ((jxw (y3 + 1)).toNat)) (E.2 ((jxw (y3 + 2)).toNat)) a90_ b hv90_ (WFW_fr hg0 hf90_ (fun _ => rfl) (fun _ => rfl))) (fun r92_ a92_ b92_ h92_ => ?_)
  obtain ⟨hv92_, hf92_, rfl, hq92_0⟩ := h92_
  have h93_ := iv_get hv90_ (k := 146) (j := 2) (l := 0) (u := 40) rfl
  have h94_ : a90_ 146 2 = a 146 2 := hf90_ 146 2 rfl
  have h95_ := iv_get hv (k := 146) (j := 2) (l := 0) (u := 40) rfl
  refine jt_ite (fun c96_ => ?_) (fun c96_ => ?_)
  ·
    exact hnext a92_ b 
  ·
    exact absurd (by omega : False) id
theorem lw_op523 (E : jxE) (d : Nat) (hd : Nat.ble 60 (d + 1) = true) (hL : E.1 ≤ 6) (y3 : Int) (hy0 : y3 = 0) (hy1 : y3 + 6 ≤ E.1) (hnext : ∀ (a b : Nat → Nat → Int), jt (jxX E d 305 1189 [some (.inr (.inr (.inl 3000))), some (.inr (.inr (.inl 0))), some (.inr (.inr (.inl 146))), some (.inl y3)] [] (jxSH, a, b)) (fun v _ _ => v = [.inl 1])) (a b : Nat → Nat → Int) (hv : iv a) (hg0 : WFW a) (hg1 : SV a) (hg2 : OC a) (hg3 : FO a) (hg4 : FW a) (hg5 : FARR a) (hr0 : a 0 0 = 0) (hr1 : a 146 0 = 0) (hr2 : a 4 6 = 0) (hr3 : a 146 2 = 0) (hr4 : a 2 1 = 0) (hr5 : a 146 22 = 0) (hr6 : a 0 9 = 0) (hr7 : a 146 42 = 0) (hr8 : a 58 8 = 0) (hr9 : a 146 9 = 0) (hr10 : a 58 12 = 0) (hr11 : a 146 17 = 0) (hr12 : a 83 6 = 0) (hr13 : a 146 49 = 0) (hr14 : a 83 7 = 0) (hr15 : a 146 55 = 0) (hr16 : a 90 12 = 0) (hr17 : a 146 64 = 0) (hr18 : a 105 5 = 0) (hr19 : a 146 68 = 0) (hr20 : a 146 75 = 0) (hr21 : a 56 0 = 5) (hr22 : a 56 1 = 10) (hr23 : a 56 2 = 3) (hr24 : a 56 3 = 60) (hr25 : a 56 4 = 2) (hw142 : ∀ j : Nat, j < 8 → a 142 j = -1) (hw196 : ∀ j : Nat, j < 8 → a 196 j = -1) (hw143 : ∀ j : Nat, a 143 j = 0) (hw197 : ∀ j : Nat, a 197 j = 0) (hw144 : ∀ j : Nat, j < 8 → a 144 j = -1) (hw171 : ∀ j : Nat, (j = 0 → a 171 j = 5) ∧ (j = 1 → a 171 j = 10) ∧ (j = 2 → a 171 j = 3) ∧ (j = 3 → a 171 j = 60) ∧ (j = 4 → a 171 j = 2)) : jt (jxX E d 305 523 [some (.inr (.inr (.inl 3000))), some (.inr (.inr (.inl 0))), some (.inr (.inr (.inl 146))), some (.inl y3)] [] (jxSH, a, b)) (fun v _ _ => v = [.inl 1]) := by
  refine jt_eq (bq_law_523 E d y3 a b) ?_
  refine jt_bif (Nat.ble_eq_true_of_le (by omega)) ?_
  have h97_ : jxw (y3 + 1) = y3 + 1 := jxw_id (by omega) (by omega)
  refine jt_grd (by omega) ?_
  refine jt_bI (sp_X11_list E d (jd_le hd rfl) (E.2 ((jxw (y3 + 1)).toNat)) a b hv) (fun r98_ a98_ b98_ h98_ => ?_)
  obtain ⟨hv98_, hf98_, rfl, hq98_0⟩ := h98_
  have h99_ := iv_get hv (k := 4) (j := 6) (l := 0) (u := 40) rfl
  refine jt_bif (Nat.ble_eq_true_of_le (by omega)) ?_
  refine jt_grd (by omega) ?_
  refine jt_bI (sp_X12_list E d (jd_le hd rfl) (E.2 ((jxw (y3 + 1)).toNat)) a98_ b hv98_) (fun r100_ a100_ b100_ h100_ => ?_)
  obtain ⟨hv100_, hf100_, rfl, hq100_0⟩ := h100_
  have h101_ := iv_get hv98_ (k := 146) (j := 2) (l := 0) (u := 40) rfl
  have h102_ : a98_ 146 2 = a 146 2 := hf98_ 146 2 rfl
  have h103_ := iv_get hv (k := 146) (j := 2) (l := 0) (u := 40) rfl
  refine jt_ite (fun c104_ => ?_) (fun c104_ => ?_)
  ·
    exact hnext a100_ b 
  ·
    exact absurd (by omega : False) id
theorem lw_op546 (E : jxE) (d : Nat) (hd : Nat.ble 60 (d + 1) = true) (hL : E.1 ≤ 6) (y3 : Int) (hy0 : y3 = 0) (hy1 : y3 + 6 ≤ E.1) (hnext : ∀ (a b : Nat → Nat → Int), jt (jxX E d 305 1189 [some (.inr (.inr (.inl 3000))), some (.inr (.inr (.inl 0))), some (.inr (.inr (.inl 146))), some (.inl y3)] [] (jxSH, a, b)) (fun v _ _ => v = [.inl 1])) (a b : Nat → Nat → Int) (hv : iv a) (hg0 : WFW a) (hg1 : SV a) (hg2 : OC a) (hg3 : FO a) (hg4 : FW a) (hg5 : FARR a) (hr0 : a 0 0 = 0) (hr1 : a 146 0 = 0) (hr2 : a 4 6 = 0) (hr3 : a 146 2 = 0) (hr4 : a 2 1 = 0) (hr5 : a 146 22 = 0) (hr6 : a 0 9 = 0) (hr7 : a 146 42 = 0) (hr8 : a 58 8 = 0) (hr9 : a 146 9 = 0) (hr10 : a 58 12 = 0) (hr11 : a 146 17 = 0) (hr12 : a 83 6 = 0) (hr13 : a 146 49 = 0) (hr14 : a 83 7 = 0) (hr15 : a 146 55 = 0) (hr16 : a 90 12 = 0) (hr17 : a 146 64 = 0) (hr18 : a 105 5 = 0) (hr19 : a 146 68 = 0) (hr20 : a 146 75 = 0) (hr21 : a 56 0 = 5) (hr22 : a 56 1 = 10) (hr23 : a 56 2 = 3) (hr24 : a 56 3 = 60) (hr25 : a 56 4 = 2) (hw142 : ∀ j : Nat, j < 8 → a 142 j = -1) (hw196 : ∀ j : Nat, j < 8 → a 196 j = -1) (hw143 : ∀ j : Nat, a 143 j = 0) (hw197 : ∀ j : Nat, a 197 j = 0) (hw144 : ∀ j : Nat, j < 8 → a 144 j = -1) (hw171 : ∀ j : Nat, (j = 0 → a 171 j = 5) ∧ (j = 1 → a 171 j = 10) ∧ (j = 2 → a 171 j = 3) ∧ (j = 3 → a 171 j = 60) ∧ (j = 4 → a 171 j = 2)) : jt (jxX E d 305 546 [some (.inr (.inr (.inl 3000))), some (.inr (.inr (.inl 0))), some (.inr (.inr (.inl 146))), some (.inl y3)] [] (jxSH, a, b)) (fun v _ _ => v = [.inl 1]) := by
  refine jt_eq (bq_law_546 E d y3 a b) ?_
  refine jt_bI (sp_X11_give E d (jd_le hd rfl) a b hv) (fun r105_ a105_ b105_ h105_ => ?_)
  obtain ⟨hv105_, hf105_, hq105_0⟩ := h105_
  have h106_ := iv_get hv (k := 0) (j := 9) (l := 0) (u := 8) rfl
  refine jt_bI (sp_X12_give E d (jd_le hd rfl) a105_ b105_ hv105_ (WFW_fr hg0 hf105_ (fun _ => rfl) (fun _ => rfl)) (OC_fr hg2 hf105_ rfl rfl (fun _ => rfl) (fun _ => rfl) (fun _ => rfl) (fun _ => rfl) (fun _ => rfl))) (fun r107_ a107_ b107_ h107_ => ?_)
  obtain ⟨hv107_, hf107_, hq107_0, hq107_1⟩ := h107_
  have h108_ := iv_get hv105_ (k := 146) (j := 42) (l := 0) (u := 8) rfl
  have h109_ : a105_ 146 42 = a 146 42 := hf105_ 146 42 rfl
  have h110_ := iv_get hv (k := 146) (j := 42) (l := 0) (u := 8) rfl
  refine jt_ite (fun c111_ => ?_) (fun c111_ => ?_)
  ·
    exact hnext a107_ b107_ 
  ·
    exact absurd (by omega : False) id
theorem lw_op559 (E : jxE) (d : Nat) (hd : Nat.ble 60 (d + 1) = true) (hL : E.1 ≤ 6) (y3 : Int) (hy0 : y3 = 0) (hy1 : y3 + 6 ≤ E.1) (hnext : ∀ (a b : Nat → Nat → Int), jt (jxX E d 305 1189 [some (.inr (.inr (.inl 3000))), some (.inr (.inr (.inl 0))), some (.inr (.inr (.inl 146))), some (.inl y3)] [] (jxSH, a, b)) (fun v _ _ => v = [.inl 1])) (a b : Nat → Nat → Int) (hv : iv a) (hg0 : WFW a) (hg1 : SV a) (hg2 : OC a) (hg3 : FO a) (hg4 : FW a) (hg5 : FARR a) (hr0 : a 0 0 = 0) (hr1 : a 146 0 = 0) (hr2 : a 4 6 = 0) (hr3 : a 146 2 = 0) (hr4 : a 2 1 = 0) (hr5 : a 146 22 = 0) (hr6 : a 0 9 = 0) (hr7 : a 146 42 = 0) (hr8 : a 58 8 = 0) (hr9 : a 146 9 = 0) (hr10 : a 58 12 = 0) (hr11 : a 146 17 = 0) (hr12 : a 83 6 = 0) (hr13 : a 146 49 = 0) (hr14 : a 83 7 = 0) (hr15 : a 146 55 = 0) (hr16 : a 90 12 = 0) (hr17 : a 146 64 = 0) (hr18 : a 105 5 = 0) (hr19 : a 146 68 = 0) (hr20 : a 146 75 = 0) (hr21 : a 56 0 = 5) (hr22 : a 56 1 = 10) (hr23 : a 56 2 = 3) (hr24 : a 56 3 = 60) (hr25 : a 56 4 = 2) (hw142 : ∀ j : Nat, j < 8 → a 142 j = -1) (hw196 : ∀ j : Nat, j < 8 → a 196 j = -1) (hw143 : ∀ j : Nat, a 143 j = 0) (hw197 : ∀ j : Nat, a 197 j = 0) (hw144 : ∀ j : Nat, j < 8 → a 144 j = -1) (hw171 : ∀ j : Nat, (j = 0 → a 171 j = 5) ∧ (j = 1 → a 171 j = 10) ∧ (j = 2 → a 171 j = 3) ∧ (j = 3 → a 171 j = 60) ∧ (j = 4 → a 171 j = 2)) : jt (jxX E d 305 559 [some (.inr (.inr (.inl 3000))), some (.inr (.inr (.inl 0))), some (.inr (.inr (.inl 146))), some (.inl y3)] [] (jxSH, a, b)) (fun v _ _ => v = [.inl 1]) := by
  refine jt_eq (bq_law_559 E d y3 a b) ?_
  refine jt_bif (Nat.ble_eq_true_of_le (by omega)) ?_
  have h112_ : jxw (y3 + 1) = y3 + 1 := jxw_id (by omega) (by omega)
  refine jt_grd (by omega) ?_
  refine jt_bif (Nat.ble_eq_true_of_le (by omega)) ?_
  have h113_ : jxw (y3 + 2) = y3 + 2 := jxw_id (by omega) (by omega)
  refine jt_grd (by omega) ?_
  refine jt_bI (sp_X11_arrive E d (jd_le hd rfl) (E.2 ((jxw (y3 + 1)).toNat)) (E.2 ((jxw (y3 + 2)).toNat)) a b hv) (fun r114_ a114_ b114_ h114_ => ?_)
  obtain ⟨hv114_, hf114_, rfl, hq114_0, hq114_1⟩ := h114_
  have h115_ := iv_get hv (k := 58) (j := 8) (l := 0) (u := 300) rfl
  refine jt_bif (Nat.ble_eq_true_of_le (by omega)) ?_
  refine jt_grd (by omega) ?_
  refine jt_bif (Nat.ble_eq_true_of_le (by omega)) ?_
  refine jt_grd (by omega) ?_
  refine jt_bI (sp_X12_arrive E d (jd_le hd rfl) (E.2 ((jxw (y3 + 1)).toNat)) (E.2 ((jxw (y3 + 2)).toNat)) a114_ b hv114_) (fun r116_ a116_ b116_ h116_ => ?_)
  obtain ⟨hv116_, hf116_, rfl, hq116_0, hq116_1⟩ := h116_
  have h117_ := iv_get hv114_ (k := 146) (j := 9) (l := 0) (u := 300) rfl
  have h118_ : a114_ 146 9 = a 146 9 := hf114_ 146 9 rfl
  have h119_ := iv_get hv (k := 146) (j := 9) (l := 0) (u := 300) rfl
  refine jt_ite (fun c120_ => ?_) (fun c120_ => ?_)
  ·
    exact hnext a116_ b 
  ·
    exact absurd (by omega : False) id
theorem lw_op592 (E : jxE) (d : Nat) (hd : Nat.ble 60 (d + 1) = true) (hL : E.1 ≤ 6) (y3 : Int) (hy0 : y3 = 0) (hy1 : y3 + 6 ≤ E.1) (hnext : ∀ (a b : Nat → Nat → Int), jt (jxX E d 305 1189 [some (.inr (.inr (.inl 3000))), some (.inr (.inr (.inl 0))), some (.inr (.inr (.inl 146))), some (.inl y3)] [] (jxSH, a, b)) (fun v _ _ => v = [.inl 1])) (a b : Nat → Nat → Int) (hv : iv a) (hg0 : WFW a) (hg1 : SV a) (hg2 : OC a) (hg3 : FO a) (hg4 : FW a) (hg5 : FARR a) (hr0 : a 0 0 = 0) (hr1 : a 146 0 = 0) (hr2 : a 4 6 = 0) (hr3 : a 146 2 = 0) (hr4 : a 2 1 = 0) (hr5 : a 146 22 = 0) (hr6 : a 0 9 = 0) (hr7 : a 146 42 = 0) (hr8 : a 58 8 = 0) (hr9 : a 146 9 = 0) (hr10 : a 58 12 = 0) (hr11 : a 146 17 = 0) (hr12 : a 83 6 = 0) (hr13 : a 146 49 = 0) (hr14 : a 83 7 = 0) (hr15 : a 146 55 = 0) (hr16 : a 90 12 = 0) (hr17 : a 146 64 = 0) (hr18 : a 105 5 = 0) (hr19 : a 146 68 = 0) (hr20 : a 146 75 = 0) (hr21 : a 56 0 = 5) (hr22 : a 56 1 = 10) (hr23 : a 56 2 = 3) (hr24 : a 56 3 = 60) (hr25 : a 56 4 = 2) (hw142 : ∀ j : Nat, j < 8 → a 142 j = -1) (hw196 : ∀ j : Nat, j < 8 → a 196 j = -1) (hw143 : ∀ j : Nat, a 143 j = 0) (hw197 : ∀ j : Nat, a 197 j = 0) (hw144 : ∀ j : Nat, j < 8 → a 144 j = -1) (hw171 : ∀ j : Nat, (j = 0 → a 171 j = 5) ∧ (j = 1 → a 171 j = 10) ∧ (j = 2 → a 171 j = 3) ∧ (j = 3 → a 171 j = 60) ∧ (j = 4 → a 171 j = 2)) : jt (jxX E d 305 592 [some (.inr (.inr (.inl 3000))), some (.inr (.inr (.inl 0))), some (.inr (.inr (.inl 146))), some (.inl y3)] [] (jxSH, a, b)) (fun v _ _ => v = [.inl 1]) := by
  refine jt_eq (bq_law_592 E d y3 a b) ?_
  refine jt_bif (Nat.ble_eq_true_of_le (by omega)) ?_
  have h121_ : jxw (y3 + 1) = y3 + 1 := jxw_id (by omega) (by omega)
  refine jt_grd (by omega) ?_
  refine jt_bI (sp_X11_back E d (jd_le hd rfl) (E.2 ((jxw (y3 + 1)).toNat)) a b hv) (fun r122_ a122_ b122_ h122_ => ?_)
  obtain ⟨hv122_, hf122_, rfl, hq122_0, hq122_1⟩ := h122_
  have h123_ := iv_get hv (k := 58) (j := 8) (l := 0) (u := 300) rfl
  refine jt_bif (Nat.ble_eq_true_of_le (by omega)) ?_
  refine jt_grd (by omega) ?_
  refine jt_bI (sp_X12_back E d (jd_le hd rfl) (E.2 ((jxw (y3 + 1)).toNat)) a122_ b hv122_) (fun r124_ a124_ b124_ h124_ => ?_)
  obtain ⟨hv124_, hf124_, rfl, hq124_0, hq124_1⟩ := h124_
  have h125_ := iv_get hv122_ (k := 146) (j := 9) (l := 0) (u := 300) rfl
  have h126_ : a122_ 146 9 = a 146 9 := hf122_ 146 9 rfl
  have h127_ := iv_get hv (k := 146) (j := 9) (l := 0) (u := 300) rfl
  refine jt_ite (fun c128_ => ?_) (fun c128_ => ?_)
  ·
    exact hnext a124_ b 
  ·
    exact absurd (by omega : False) id
theorem lw_op615 (E : jxE) (d : Nat) (hd : Nat.ble 60 (d + 1) = true) (hL : E.1 ≤ 6) (y3 : Int) (hy0 : y3 = 0) (hy1 : y3 + 6 ≤ E.1) (hnext : ∀ (a b : Nat → Nat → Int), jt (jxX E d 305 1189 [some (.inr (.inr (.inl 3000))), some (.inr (.inr (.inl 0))), some (.inr (.inr (.inl 146))), some (.inl y3)] [] (jxSH, a, b)) (fun v _ _ => v = [.inl 1])) (a b : Nat → Nat → Int) (hv : iv a) (hg0 : WFW a) (hg1 : SV a) (hg2 : OC a) (hg3 : FO a) (hg4 : FW a) (hg5 : FARR a) (hr0 : a 0 0 = 0) (hr1 : a 146 0 = 0) (hr2 : a 4 6 = 0) (hr3 : a 146 2 = 0) (hr4 : a 2 1 = 0) (hr5 : a 146 22 = 0) (hr6 : a 0 9 = 0) (hr7 : a 146 42 = 0) (hr8 : a 58 8 = 0) (hr9 : a 146 9 = 0) (hr10 : a 58 12 = 0) (hr11 : a 146 17 = 0) (hr12 : a 83 6 = 0) (hr13 : a 146 49 = 0) (hr14 : a 83 7 = 0) (hr15 : a 146 55 = 0) (hr16 : a 90 12 = 0) (hr17 : a 146 64 = 0) (hr18 : a 105 5 = 0) (hr19 : a 146 68 = 0) (hr20 : a 146 75 = 0) (hr21 : a 56 0 = 5) (hr22 : a 56 1 = 10) (hr23 : a 56 2 = 3) (hr24 : a 56 3 = 60) (hr25 : a 56 4 = 2) (hw142 : ∀ j : Nat, j < 8 → a 142 j = -1) (hw196 : ∀ j : Nat, j < 8 → a 196 j = -1) (hw143 : ∀ j : Nat, a 143 j = 0) (hw197 : ∀ j : Nat, a 197 j = 0) (hw144 : ∀ j : Nat, j < 8 → a 144 j = -1) (hw171 : ∀ j : Nat, (j = 0 → a 171 j = 5) ∧ (j = 1 → a 171 j = 10) ∧ (j = 2 → a 171 j = 3) ∧ (j = 3 → a 171 j = 60) ∧ (j = 4 → a 171 j = 2)) : jt (jxX E d 305 615 [some (.inr (.inr (.inl 3000))), some (.inr (.inr (.inl 0))), some (.inr (.inr (.inl 146))), some (.inl y3)] [] (jxSH, a, b)) (fun v _ _ => v = [.inl 1]) := by
  refine jt_eq (bq_law_615 E d y3 a b) ?_
  refine jt_bif (Nat.ble_eq_true_of_le (by omega)) ?_
  have h129_ : jxw (y3 + 1) = y3 + 1 := jxw_id (by omega) (by omega)
  refine jt_grd (by omega) ?_
  refine jt_bif (Nat.ble_eq_true_of_le (by omega)) ?_
  have h130_ : jxw (y3 + 2) = y3 + 2 := jxw_id (by omega) (by omega)
  refine jt_grd (by omega) ?_
  refine jt_eI (eq_X11_card E d (jd_le hd rfl) (E.2 ((jxw (y3 + 1)).toNat)) (E.2 ((jxw (y3 + 2)).toNat)) a b) ?_
  refine jt_bif (Nat.ble_eq_true_of_le (by omega)) ?_
  refine jt_grd (by omega) ?_
  refine jt_bif (Nat.ble_eq_true_of_le (by omega)) ?_
  refine jt_grd (by omega) ?_
  refine jt_bI (sp_X12_card E d (jd_le hd rfl) (E.2 ((jxw (y3 + 1)).toNat)) (E.2 ((jxw (y3 + 2)).toNat)) a b hv) (fun r131_ a131_ b131_ h131_ => ?_)
  obtain ⟨rfl, rfl, hq131_0⟩ := h131_
  have h132_ := iv_get hv (k := 146) (j := 9) (l := 0) (u := 300) rfl
  have h133_ := f_X11_card_eq a b (E.2 ((jxw (y3 + 1)).toNat)) (E.2 ((jxw (y3 + 2)).toNat))
  have h134_ := f_X0_fromOf_eq a b (E.2 ((jxw (y3 + 1)).toNat))
  have h135_ := iv_get hv (k := 58) (j := 8) (l := 0) (u := 300) rfl
  have h136_ := f_X11_entry_r59_eq a b (a 58 8) (E.2 ((jxw (y3 + 1)).toNat))
  have h137_ := f_X0_toOf_eq a b (E.2 ((jxw (y3 + 1)).toNat))
  have h138_ := f_X11_entry_r60_eq a b (a 58 8) (E.2 ((jxw (y3 + 1)).toNat))
  have h139_ := f_X0_sentOnOf_eq a b (E.2 ((jxw (y3 + 1)).toNat))
  have h140_ := f_X11_entry_r61_eq a b (a 58 8) (E.2 ((jxw (y3 + 1)).toNat))
  have h141_ := f_X0_boundOf_eq a b (E.2 ((jxw (y3 + 1)).toNat))
  have h142_ := f_X11_entry_r62_eq a b (a 58 8) (E.2 ((jxw (y3 + 1)).toNat))
  have h143_ := f_X0_arrivedOnOf_eq a b (E.2 ((jxw (y3 + 1)).toNat))
  have h144_ := iv_get hv (k := 58) (j := 12) (l := 0) (u := 600) rfl
  have h145_ := f_X11_entry_r65_eq a b (a 58 8) (E.2 ((jxw (y3 + 1)).toNat))
  have h146_ := f_X11_entry_r67_eq a b (a 58 12) (f_X11_entry_r65 a b (a 58 8) (E.2 ((jxw (y3 + 1)).toNat)))
  have h147_ := f_X0_ringOf_eq a b (E.2 ((jxw (y3 + 1)).toNat))
  have h148_ := f_X11_entry_r63_eq a b (a 58 8) (E.2 ((jxw (y3 + 1)).toNat))
  have h149_ := f_X0_cancelledOnOf_eq a b (E.2 ((jxw (y3 + 1)).toNat))
  have h150_ := f_X11_entry_r64_eq a b (a 58 8) (E.2 ((jxw (y3 + 1)).toNat))
  refine jt_ite (fun c151_ => ?_) (fun c151_ => ?_)
  ·
    exact hnext a b 
  ·
    exact absurd (by omega : False) id
theorem lw_op648 (E : jxE) (d : Nat) (hd : Nat.ble 60 (d + 1) = true) (hL : E.1 ≤ 6) (y3 : Int) (hy0 : y3 = 0) (hy1 : y3 + 6 ≤ E.1) (hnext : ∀ (a b : Nat → Nat → Int), jt (jxX E d 305 1189 [some (.inr (.inr (.inl 3000))), some (.inr (.inr (.inl 0))), some (.inr (.inr (.inl 146))), some (.inl y3)] [] (jxSH, a, b)) (fun v _ _ => v = [.inl 1])) (a b : Nat → Nat → Int) (hv : iv a) (hg0 : WFW a) (hg1 : SV a) (hg2 : OC a) (hg3 : FO a) (hg4 : FW a) (hg5 : FARR a) (hr0 : a 0 0 = 0) (hr1 : a 146 0 = 0) (hr2 : a 4 6 = 0) (hr3 : a 146 2 = 0) (hr4 : a 2 1 = 0) (hr5 : a 146 22 = 0) (hr6 : a 0 9 = 0) (hr7 : a 146 42 = 0) (hr8 : a 58 8 = 0) (hr9 : a 146 9 = 0) (hr10 : a 58 12 = 0) (hr11 : a 146 17 = 0) (hr12 : a 83 6 = 0) (hr13 : a 146 49 = 0) (hr14 : a 83 7 = 0) (hr15 : a 146 55 = 0) (hr16 : a 90 12 = 0) (hr17 : a 146 64 = 0) (hr18 : a 105 5 = 0) (hr19 : a 146 68 = 0) (hr20 : a 146 75 = 0) (hr21 : a 56 0 = 5) (hr22 : a 56 1 = 10) (hr23 : a 56 2 = 3) (hr24 : a 56 3 = 60) (hr25 : a 56 4 = 2) (hw142 : ∀ j : Nat, j < 8 → a 142 j = -1) (hw196 : ∀ j : Nat, j < 8 → a 196 j = -1) (hw143 : ∀ j : Nat, a 143 j = 0) (hw197 : ∀ j : Nat, a 197 j = 0) (hw144 : ∀ j : Nat, j < 8 → a 144 j = -1) (hw171 : ∀ j : Nat, (j = 0 → a 171 j = 5) ∧ (j = 1 → a 171 j = 10) ∧ (j = 2 → a 171 j = 3) ∧ (j = 3 → a 171 j = 60) ∧ (j = 4 → a 171 j = 2)) : jt (jxX E d 305 648 [some (.inr (.inr (.inl 3000))), some (.inr (.inr (.inl 0))), some (.inr (.inr (.inl 146))), some (.inl y3)] [] (jxSH, a, b)) (fun v _ _ => v = [.inl 1]) := by
  refine jt_eq (bq_law_648 E d y3 a b) ?_
  refine jt_bif (Nat.ble_eq_true_of_le (by omega)) ?_
  have h152_ : jxw (y3 + 1) = y3 + 1 := jxw_id (by omega) (by omega)
  refine jt_grd (by omega) ?_
  refine jt_bif (Nat.ble_eq_true_of_le (by omega)) ?_
  have h153_ : jxw (y3 + 2) = y3 + 2 := jxw_id (by omega) (by omega)
  refine jt_grd (by omega) ?_
  refine jt_bif (Nat.ble_eq_true_of_le (by omega)) ?_
  have h154_ : jxw (y3 + 3) = y3 + 3 := jxw_id (by omega) (by omega)
  refine jt_grd (by omega) ?_
  refine jt_bI (sp_X11_state E d (jd_le hd rfl) (E.2 ((jxw (y3 + 1)).toNat)) (E.2 ((jxw (y3 + 2)).toNat)) (E.2 ((jxw (y3 + 3)).toNat)) a b hv) (fun r155_ a155_ b155_ h155_ => ?_)
  obtain ⟨rfl, rfl, hq155_0⟩ := h155_
  have h156_ := iv_get hv (k := 58) (j := 8) (l := 0) (u := 300) rfl
  refine jt_bif (Nat.ble_eq_true_of_le (by omega)) ?_
  refine jt_grd (by omega) ?_
  refine jt_bif (Nat.ble_eq_true_of_le (by omega)) ?_
  refine jt_grd (by omega) ?_
  refine jt_bif (Nat.ble_eq_true_of_le (by omega)) ?_
  refine jt_grd (by omega) ?_
  refine jt_bI (sp_X12_state E d (jd_le hd rfl) (E.2 ((jxw (y3 + 1)).toNat)) (E.2 ((jxw (y3 + 2)).toNat)) (E.2 ((jxw (y3 + 3)).toNat)) a b hv) (fun r157_ a157_ b157_ h157_ => ?_)
  obtain ⟨rfl, rfl, hq157_0⟩ := h157_
  have h158_ := iv_get hv (k := 146) (j := 9) (l := 0) (u := 300) rfl
  refine jt_ite (fun c159_ => ?_) (fun c159_ => ?_)
  ·
    exact hnext a b 
  ·
    exact absurd (by omega : False) id
theorem lw_op691 (E : jxE) (d : Nat) (hd : Nat.ble 60 (d + 1) = true) (hL : E.1 ≤ 6) (y3 : Int) (hy0 : y3 = 0) (hy1 : y3 + 6 ≤ E.1) (hnext : ∀ (a b : Nat → Nat → Int), jt (jxX E d 305 1189 [some (.inr (.inr (.inl 3000))), some (.inr (.inr (.inl 0))), some (.inr (.inr (.inl 146))), some (.inl y3)] [] (jxSH, a, b)) (fun v _ _ => v = [.inl 1])) (a b : Nat → Nat → Int) (hv : iv a) (hg0 : WFW a) (hg1 : SV a) (hg2 : OC a) (hg3 : FO a) (hg4 : FW a) (hg5 : FARR a) (hr0 : a 0 0 = 0) (hr1 : a 146 0 = 0) (hr2 : a 4 6 = 0) (hr3 : a 146 2 = 0) (hr4 : a 2 1 = 0) (hr5 : a 146 22 = 0) (hr6 : a 0 9 = 0) (hr7 : a 146 42 = 0) (hr8 : a 58 8 = 0) (hr9 : a 146 9 = 0) (hr10 : a 58 12 = 0) (hr11 : a 146 17 = 0) (hr12 : a 83 6 = 0) (hr13 : a 146 49 = 0) (hr14 : a 83 7 = 0) (hr15 : a 146 55 = 0) (hr16 : a 90 12 = 0) (hr17 : a 146 64 = 0) (hr18 : a 105 5 = 0) (hr19 : a 146 68 = 0) (hr20 : a 146 75 = 0) (hr21 : a 56 0 = 5) (hr22 : a 56 1 = 10) (hr23 : a 56 2 = 3) (hr24 : a 56 3 = 60) (hr25 : a 56 4 = 2) (hw142 : ∀ j : Nat, j < 8 → a 142 j = -1) (hw196 : ∀ j : Nat, j < 8 → a 196 j = -1) (hw143 : ∀ j : Nat, a 143 j = 0) (hw197 : ∀ j : Nat, a 197 j = 0) (hw144 : ∀ j : Nat, j < 8 → a 144 j = -1) (hw171 : ∀ j : Nat, (j = 0 → a 171 j = 5) ∧ (j = 1 → a 171 j = 10) ∧ (j = 2 → a 171 j = 3) ∧ (j = 3 → a 171 j = 60) ∧ (j = 4 → a 171 j = 2)) : jt (jxX E d 305 691 [some (.inr (.inr (.inl 3000))), some (.inr (.inr (.inl 0))), some (.inr (.inr (.inl 146))), some (.inl y3)] [] (jxSH, a, b)) (fun v _ _ => v = [.inl 1]) := by
  refine jt_eq (bq_law_691 E d y3 a b) ?_
  refine jt_bif (Nat.ble_eq_true_of_le (by omega)) ?_
  have h160_ : jxw (y3 + 1) = y3 + 1 := jxw_id (by omega) (by omega)
  refine jt_grd (by omega) ?_
  refine jt_bif (Nat.ble_eq_true_of_le (by omega)) ?_
  have h161_ : jxw (y3 + 2) = y3 + 2 := jxw_id (by omega) (by omega)
  refine jt_grd (by omega) ?_
  refine jt_bI (sp_X11_about E d (jd_le hd rfl) (E.2 ((jxw (y3 + 1)).toNat)) (E.2 ((jxw (y3 + 2)).toNat)) a b hv) (fun r162_ a162_ b162_ h162_ => ?_)
  obtain ⟨hv162_, hf162_, rfl, hq162_0⟩ := h162_
  have h163_ := iv_get hv (k := 4) (j := 6) (l := 0) (u := 40) rfl
  refine jt_bif (Nat.ble_eq_true_of_le (by omega)) ?_
  refine jt_grd (by omega) ?_
  refine jt_bif (Nat.ble_eq_true_of_le (by omega)) ?_
  refine jt_grd (by omega) ?_
  refine jt_bI (sp_X12_about E d (jd_le hd rfl) (E.2 ((jxw (y3 + 1)).toNat)) (E.2 ((jxw (y3 + 2)).toNat)) a162_ b hv162_) (fun r164_ a164_ b164_ h164_ => ?_)
  obtain ⟨rfl, rfl, hq164_0⟩ := h164_
  have h165_ := iv_get hv162_ (k := 146) (j := 2) (l := 0) (u := 40) rfl
  have h166_ : a162_ 146 2 = a 146 2 := hf162_ 146 2 rfl
  have h167_ := iv_get hv (k := 146) (j := 2) (l := 0) (u := 40) rfl
  refine jt_ite (fun c168_ => ?_) (fun c168_ => ?_)
  ·
    exact hnext a162_ b 
  ·
    exact absurd (by omega : False) id
theorem lw_op724 (E : jxE) (d : Nat) (hd : Nat.ble 60 (d + 1) = true) (hL : E.1 ≤ 6) (y3 : Int) (hy0 : y3 = 0) (hy1 : y3 + 6 ≤ E.1) (hnext : ∀ (a b : Nat → Nat → Int), jt (jxX E d 305 1189 [some (.inr (.inr (.inl 3000))), some (.inr (.inr (.inl 0))), some (.inr (.inr (.inl 146))), some (.inl y3)] [] (jxSH, a, b)) (fun v _ _ => v = [.inl 1])) (a b : Nat → Nat → Int) (hv : iv a) (hg0 : WFW a) (hg1 : SV a) (hg2 : OC a) (hg3 : FO a) (hg4 : FW a) (hg5 : FARR a) (hr0 : a 0 0 = 0) (hr1 : a 146 0 = 0) (hr2 : a 4 6 = 0) (hr3 : a 146 2 = 0) (hr4 : a 2 1 = 0) (hr5 : a 146 22 = 0) (hr6 : a 0 9 = 0) (hr7 : a 146 42 = 0) (hr8 : a 58 8 = 0) (hr9 : a 146 9 = 0) (hr10 : a 58 12 = 0) (hr11 : a 146 17 = 0) (hr12 : a 83 6 = 0) (hr13 : a 146 49 = 0) (hr14 : a 83 7 = 0) (hr15 : a 146 55 = 0) (hr16 : a 90 12 = 0) (hr17 : a 146 64 = 0) (hr18 : a 105 5 = 0) (hr19 : a 146 68 = 0) (hr20 : a 146 75 = 0) (hr21 : a 56 0 = 5) (hr22 : a 56 1 = 10) (hr23 : a 56 2 = 3) (hr24 : a 56 3 = 60) (hr25 : a 56 4 = 2) (hw142 : ∀ j : Nat, j < 8 → a 142 j = -1) (hw196 : ∀ j : Nat, j < 8 → a 196 j = -1) (hw143 : ∀ j : Nat, a 143 j = 0) (hw197 : ∀ j : Nat, a 197 j = 0) (hw144 : ∀ j : Nat, j < 8 → a 144 j = -1) (hw171 : ∀ j : Nat, (j = 0 → a 171 j = 5) ∧ (j = 1 → a 171 j = 10) ∧ (j = 2 → a 171 j = 3) ∧ (j = 3 → a 171 j = 60) ∧ (j = 4 → a 171 j = 2)) : jt (jxX E d 305 724 [some (.inr (.inr (.inl 3000))), some (.inr (.inr (.inl 0))), some (.inr (.inr (.inl 146))), some (.inl y3)] [] (jxSH, a, b)) (fun v _ _ => v = [.inl 1]) := by
  refine jt_eq (bq_law_724 E d y3 a b) ?_
  refine jt_bif (Nat.ble_eq_true_of_le (by omega)) ?_
  have h169_ : jxw (y3 + 1) = y3 + 1 := jxw_id (by omega) (by omega)
  refine jt_grd (by omega) ?_
  refine jt_bI (sp_X11_album E d (jd_le hd rfl) (E.2 ((jxw (y3 + 1)).toNat)) a b hv) (fun r170_ a170_ b170_ h170_ => ?_)
  obtain ⟨rfl, rfl, hq170_0⟩ := h170_
  have h171_ := iv_get hv (k := 4) (j := 6) (l := 0) (u := 40) rfl
  refine jt_bif (Nat.ble_eq_true_of_le (by omega)) ?_
  refine jt_grd (by omega) ?_
  refine jt_bI (sp_X12_album E d (jd_le hd rfl) (E.2 ((jxw (y3 + 1)).toNat)) a b hv) (fun r172_ a172_ b172_ h172_ => ?_)
  obtain ⟨rfl, rfl, hq172_0⟩ := h172_
  have h173_ := iv_get hv (k := 146) (j := 2) (l := 0) (u := 40) rfl
  refine jt_ite (fun c174_ => ?_) (fun c174_ => ?_)
  ·
    exact hnext a b 
  ·
    exact absurd (by omega : False) id
theorem lw_op747 (E : jxE) (d : Nat) (hd : Nat.ble 60 (d + 1) = true) (hL : E.1 ≤ 6) (y3 : Int) (hy0 : y3 = 0) (hy1 : y3 + 6 ≤ E.1) (hnext : ∀ (a b : Nat → Nat → Int), jt (jxX E d 305 1189 [some (.inr (.inr (.inl 3000))), some (.inr (.inr (.inl 0))), some (.inr (.inr (.inl 146))), some (.inl y3)] [] (jxSH, a, b)) (fun v _ _ => v = [.inl 1])) (a b : Nat → Nat → Int) (hv : iv a) (hg0 : WFW a) (hg1 : SV a) (hg2 : OC a) (hg3 : FO a) (hg4 : FW a) (hg5 : FARR a) (hr0 : a 0 0 = 0) (hr1 : a 146 0 = 0) (hr2 : a 4 6 = 0) (hr3 : a 146 2 = 0) (hr4 : a 2 1 = 0) (hr5 : a 146 22 = 0) (hr6 : a 0 9 = 0) (hr7 : a 146 42 = 0) (hr8 : a 58 8 = 0) (hr9 : a 146 9 = 0) (hr10 : a 58 12 = 0) (hr11 : a 146 17 = 0) (hr12 : a 83 6 = 0) (hr13 : a 146 49 = 0) (hr14 : a 83 7 = 0) (hr15 : a 146 55 = 0) (hr16 : a 90 12 = 0) (hr17 : a 146 64 = 0) (hr18 : a 105 5 = 0) (hr19 : a 146 68 = 0) (hr20 : a 146 75 = 0) (hr21 : a 56 0 = 5) (hr22 : a 56 1 = 10) (hr23 : a 56 2 = 3) (hr24 : a 56 3 = 60) (hr25 : a 56 4 = 2) (hw142 : ∀ j : Nat, j < 8 → a 142 j = -1) (hw196 : ∀ j : Nat, j < 8 → a 196 j = -1) (hw143 : ∀ j : Nat, a 143 j = 0) (hw197 : ∀ j : Nat, a 197 j = 0) (hw144 : ∀ j : Nat, j < 8 → a 144 j = -1) (hw171 : ∀ j : Nat, (j = 0 → a 171 j = 5) ∧ (j = 1 → a 171 j = 10) ∧ (j = 2 → a 171 j = 3) ∧ (j = 3 → a 171 j = 60) ∧ (j = 4 → a 171 j = 2)) : jt (jxX E d 305 747 [some (.inr (.inr (.inl 3000))), some (.inr (.inr (.inl 0))), some (.inr (.inr (.inl 146))), some (.inl y3)] [] (jxSH, a, b)) (fun v _ _ => v = [.inl 1]) := by
  refine jt_eq (bq_law_747 E d y3 a b) ?_
  refine jt_bif (Nat.ble_eq_true_of_le (by omega)) ?_
  have h175_ : jxw (y3 + 1) = y3 + 1 := jxw_id (by omega) (by omega)
  refine jt_grd (by omega) ?_
  refine jt_bif (Nat.ble_eq_true_of_le (by omega)) ?_
  have h176_ : jxw (y3 + 2) = y3 + 2 := jxw_id (by omega) (by omega)
  refine jt_grd (by omega) ?_
  refine jt_bif (Nat.ble_eq_true_of_le (by omega)) ?_
  have h177_ : jxw (y3 + 3) = y3 + 3 := jxw_id (by omega) (by omega)
  refine jt_grd (by omega) ?_
  refine jt_bI (sp_X11_span E d (jd_le hd rfl) (E.2 ((jxw (y3 + 1)).toNat)) (E.2 ((jxw (y3 + 2)).toNat)) (E.2 ((jxw (y3 + 3)).toNat)) a b hv) (fun r178_ a178_ b178_ h178_ => ?_)
  obtain ⟨hv178_, hf178_, rfl, hq178_0⟩ := h178_
  have h179_ := iv_get hv (k := 58) (j := 12) (l := 0) (u := 600) rfl
  refine jt_bif (Nat.ble_eq_true_of_le (by omega)) ?_
  refine jt_grd (by omega) ?_
  refine jt_bif (Nat.ble_eq_true_of_le (by omega)) ?_
  refine jt_grd (by omega) ?_
  refine jt_bif (Nat.ble_eq_true_of_le (by omega)) ?_
  refine jt_grd (by omega) ?_
  refine jt_bI (sp_X12_span E d (jd_le hd rfl) (E.2 ((jxw (y3 + 1)).toNat)) (E.2 ((jxw (y3 + 2)).toNat)) (E.2 ((jxw (y3 + 3)).toNat)) a178_ b hv178_) (fun r180_ a180_ b180_ h180_ => ?_)
  obtain ⟨hv180_, hf180_, rfl, hq180_0⟩ := h180_
  have h181_ := iv_get hv178_ (k := 146) (j := 17) (l := 0) (u := 600) rfl
  have h182_ : a178_ 146 17 = a 146 17 := hf178_ 146 17 rfl
  have h183_ := iv_get hv (k := 146) (j := 17) (l := 0) (u := 600) rfl
  refine jt_ite (fun c184_ => ?_) (fun c184_ => ?_)
  ·
    exact hnext a180_ b 
  ·
    exact absurd (by omega : False) id
theorem lw_op790 (E : jxE) (d : Nat) (hd : Nat.ble 60 (d + 1) = true) (hL : E.1 ≤ 6) (y3 : Int) (hy0 : y3 = 0) (hy1 : y3 + 6 ≤ E.1) (hnext : ∀ (a b : Nat → Nat → Int), jt (jxX E d 305 1189 [some (.inr (.inr (.inl 3000))), some (.inr (.inr (.inl 0))), some (.inr (.inr (.inl 146))), some (.inl y3)] [] (jxSH, a, b)) (fun v _ _ => v = [.inl 1])) (a b : Nat → Nat → Int) (hv : iv a) (hg0 : WFW a) (hg1 : SV a) (hg2 : OC a) (hg3 : FO a) (hg4 : FW a) (hg5 : FARR a) (hr0 : a 0 0 = 0) (hr1 : a 146 0 = 0) (hr2 : a 4 6 = 0) (hr3 : a 146 2 = 0) (hr4 : a 2 1 = 0) (hr5 : a 146 22 = 0) (hr6 : a 0 9 = 0) (hr7 : a 146 42 = 0) (hr8 : a 58 8 = 0) (hr9 : a 146 9 = 0) (hr10 : a 58 12 = 0) (hr11 : a 146 17 = 0) (hr12 : a 83 6 = 0) (hr13 : a 146 49 = 0) (hr14 : a 83 7 = 0) (hr15 : a 146 55 = 0) (hr16 : a 90 12 = 0) (hr17 : a 146 64 = 0) (hr18 : a 105 5 = 0) (hr19 : a 146 68 = 0) (hr20 : a 146 75 = 0) (hr21 : a 56 0 = 5) (hr22 : a 56 1 = 10) (hr23 : a 56 2 = 3) (hr24 : a 56 3 = 60) (hr25 : a 56 4 = 2) (hw142 : ∀ j : Nat, j < 8 → a 142 j = -1) (hw196 : ∀ j : Nat, j < 8 → a 196 j = -1) (hw143 : ∀ j : Nat, a 143 j = 0) (hw197 : ∀ j : Nat, a 197 j = 0) (hw144 : ∀ j : Nat, j < 8 → a 144 j = -1) (hw171 : ∀ j : Nat, (j = 0 → a 171 j = 5) ∧ (j = 1 → a 171 j = 10) ∧ (j = 2 → a 171 j = 3) ∧ (j = 3 → a 171 j = 60) ∧ (j = 4 → a 171 j = 2)) : jt (jxX E d 305 790 [some (.inr (.inr (.inl 3000))), some (.inr (.inr (.inl 0))), some (.inr (.inr (.inl 146))), some (.inl y3)] [] (jxSH, a, b)) (fun v _ _ => v = [.inl 1]) := by
  refine jt_eq (bq_law_790 E d y3 a b) ?_
  refine jt_bif (Nat.ble_eq_true_of_le (by omega)) ?_
  have h185_ : jxw (y3 + 1) = y3 + 1 := jxw_id (by omega) (by omega)
  refine jt_grd (by omega) ?_
  refine jt_bif (Nat.ble_eq_true_of_le (by omega)) ?_
  have h186_ : jxw (y3 + 2) = y3 + 2 := jxw_id (by omega) (by omega)
  refine jt_grd (by omega) ?_
  refine jt_bif (Nat.ble_eq_true_of_le (by omega)) ?_
  have h187_ : jxw (y3 + 3) = y3 + 3 := jxw_id (by omega) (by omega)
  refine jt_grd (by omega) ?_
  refine jt_bI (sp_X11_offer E d (jd_le hd rfl) (E.2 ((jxw (y3 + 1)).toNat)) (E.2 ((jxw (y3 + 2)).toNat)) (E.2 ((jxw (y3 + 3)).toNat)) a b hv) (fun r188_ a188_ b188_ h188_ => ?_)
  obtain ⟨hv188_, hf188_, rfl, hq188_0, hq188_1⟩ := h188_
  have h189_ := iv_get hv (k := 4) (j := 6) (l := 0) (u := 40) rfl
  have h190_ := iv_get hv (k := 83) (j := 6) (l := 0) (u := 20) rfl
  have h191_ := iv_get hv188_ (k := 83) (j := 6) (l := 0) (u := 20) rfl
  refine jt_bif (Nat.ble_eq_true_of_le (by omega)) ?_
  refine jt_grd (by omega) ?_
  refine jt_bif (Nat.ble_eq_true_of_le (by omega)) ?_
  refine jt_grd (by omega) ?_
  refine jt_bif (Nat.ble_eq_true_of_le (by omega)) ?_
  refine jt_grd (by omega) ?_
  refine jt_bI (sp_X12_offer E d (jd_le hd rfl) (E.2 ((jxw (y3 + 1)).toNat)) (E.2 ((jxw (y3 + 2)).toNat)) (E.2 ((jxw (y3 + 3)).toNat)) a188_ b hv188_ (OC_fr hg2 hf188_ rfl rfl (fun _ => rfl) (fun _ => rfl) (fun _ => rfl) (fun _ => rfl) (fun _ => rfl)) (FO_fr hg3 hf188_ rfl rfl (fun _ => rfl)) (FW_fr hg4 hf188_ rfl (fun _ => rfl))) (fun r192_ a192_ b192_ h192_ => ?_)
  obtain ⟨hv192_, hf192_, rfl, hq192_0, hq192_1, hq192_2, hq192_3, hq192_4⟩ := h192_
  have h193_ := iv_get hv188_ (k := 146) (j := 2) (l := 0) (u := 40) rfl
  have h194_ : a188_ 146 2 = a 146 2 := hf188_ 146 2 rfl
  have h195_ := iv_get hv (k := 146) (j := 2) (l := 0) (u := 40) rfl
  have h196_ := iv_get hv188_ (k := 152) (j := (E.2 ((jxw (y3 + 1)).toNat)).toNat) (l := 0) (u := 1) rfl
  have h197_ : a188_ 152 ((E.2 ((jxw (y3 + 1)).toNat)).toNat) = a 152 ((E.2 ((jxw (y3 + 1)).toNat)).toNat) := hf188_ 152 ((E.2 ((jxw (y3 + 1)).toNat)).toNat) rfl
  have h198_ := iv_get hv (k := 152) (j := (E.2 ((jxw (y3 + 1)).toNat)).toNat) (l := 0) (u := 1) rfl
  have h199_ := iv_get hv188_ (k := 146) (j := 49) (l := 0) (u := 20) rfl
  have h200_ : a188_ 146 49 = a 146 49 := hf188_ 146 49 rfl
  have h201_ := iv_get hv (k := 146) (j := 49) (l := 0) (u := 20) rfl
  have h202_ := iv_get hv192_ (k := 146) (j := 49) (l := 0) (u := 20) rfl
  refine jt_ite (fun c203_ => ?_) (fun c203_ => ?_)
  ·
    exact hnext a192_ b 
  ·
    exact absurd (by omega : False) id
theorem lw_op833 (E : jxE) (d : Nat) (hd : Nat.ble 60 (d + 1) = true) (hL : E.1 ≤ 6) (y3 : Int) (hy0 : y3 = 0) (hy1 : y3 + 6 ≤ E.1) (hnext : ∀ (a b : Nat → Nat → Int), jt (jxX E d 305 1189 [some (.inr (.inr (.inl 3000))), some (.inr (.inr (.inl 0))), some (.inr (.inr (.inl 146))), some (.inl y3)] [] (jxSH, a, b)) (fun v _ _ => v = [.inl 1])) (a b : Nat → Nat → Int) (hv : iv a) (hg0 : WFW a) (hg1 : SV a) (hg2 : OC a) (hg3 : FO a) (hg4 : FW a) (hg5 : FARR a) (hr0 : a 0 0 = 0) (hr1 : a 146 0 = 0) (hr2 : a 4 6 = 0) (hr3 : a 146 2 = 0) (hr4 : a 2 1 = 0) (hr5 : a 146 22 = 0) (hr6 : a 0 9 = 0) (hr7 : a 146 42 = 0) (hr8 : a 58 8 = 0) (hr9 : a 146 9 = 0) (hr10 : a 58 12 = 0) (hr11 : a 146 17 = 0) (hr12 : a 83 6 = 0) (hr13 : a 146 49 = 0) (hr14 : a 83 7 = 0) (hr15 : a 146 55 = 0) (hr16 : a 90 12 = 0) (hr17 : a 146 64 = 0) (hr18 : a 105 5 = 0) (hr19 : a 146 68 = 0) (hr20 : a 146 75 = 0) (hr21 : a 56 0 = 5) (hr22 : a 56 1 = 10) (hr23 : a 56 2 = 3) (hr24 : a 56 3 = 60) (hr25 : a 56 4 = 2) (hw142 : ∀ j : Nat, j < 8 → a 142 j = -1) (hw196 : ∀ j : Nat, j < 8 → a 196 j = -1) (hw143 : ∀ j : Nat, a 143 j = 0) (hw197 : ∀ j : Nat, a 197 j = 0) (hw144 : ∀ j : Nat, j < 8 → a 144 j = -1) (hw171 : ∀ j : Nat, (j = 0 → a 171 j = 5) ∧ (j = 1 → a 171 j = 10) ∧ (j = 2 → a 171 j = 3) ∧ (j = 3 → a 171 j = 60) ∧ (j = 4 → a 171 j = 2)) : jt (jxX E d 305 833 [some (.inr (.inr (.inl 3000))), some (.inr (.inr (.inl 0))), some (.inr (.inr (.inl 146))), some (.inl y3)] [] (jxSH, a, b)) (fun v _ _ => v = [.inl 1]) := by
  refine jt_eq (bq_law_833 E d y3 a b) ?_
  refine jt_bif (Nat.ble_eq_true_of_le (by omega)) ?_
  have h204_ : jxw (y3 + 1) = y3 + 1 := jxw_id (by omega) (by omega)
  refine jt_grd (by omega) ?_
  refine jt_bI (sp_X11_away E d (jd_le hd rfl) (E.2 ((jxw (y3 + 1)).toNat)) a b hv) (fun r205_ a205_ b205_ h205_ => ?_)
  obtain ⟨hv205_, hf205_, rfl, hq205_0, hq205_1⟩ := h205_
  have h206_ := iv_get hv (k := 83) (j := 6) (l := 0) (u := 20) rfl
  refine jt_bif (Nat.ble_eq_true_of_le (by omega)) ?_
  refine jt_grd (by omega) ?_
  refine jt_bI (sp_X12_away E d (jd_le hd rfl) (E.2 ((jxw (y3 + 1)).toNat)) a205_ b hv205_ (OC_fr hg2 hf205_ rfl rfl (fun _ => rfl) (fun _ => rfl) (fun _ => rfl) (fun _ => rfl) (fun _ => rfl))) (fun r207_ a207_ b207_ h207_ => ?_)
  obtain ⟨hv207_, hf207_, rfl, hq207_0, hq207_1, hq207_2⟩ := h207_
  have h208_ := iv_get hv205_ (k := 146) (j := 49) (l := 0) (u := 20) rfl
  have h209_ : a205_ 146 49 = a 146 49 := hf205_ 146 49 rfl
  have h210_ := iv_get hv (k := 146) (j := 49) (l := 0) (u := 20) rfl
  refine jt_ite (fun c211_ => ?_) (fun c211_ => ?_)
  ·
    exact hnext a207_ b 
  ·
    exact absurd (by omega : False) id
theorem lw_op856 (E : jxE) (d : Nat) (hd : Nat.ble 60 (d + 1) = true) (hL : E.1 ≤ 6) (y3 : Int) (hy0 : y3 = 0) (hy1 : y3 + 6 ≤ E.1) (hnext : ∀ (a b : Nat → Nat → Int), jt (jxX E d 305 1189 [some (.inr (.inr (.inl 3000))), some (.inr (.inr (.inl 0))), some (.inr (.inr (.inl 146))), some (.inl y3)] [] (jxSH, a, b)) (fun v _ _ => v = [.inl 1])) (a b : Nat → Nat → Int) (hv : iv a) (hg0 : WFW a) (hg1 : SV a) (hg2 : OC a) (hg3 : FO a) (hg4 : FW a) (hg5 : FARR a) (hr0 : a 0 0 = 0) (hr1 : a 146 0 = 0) (hr2 : a 4 6 = 0) (hr3 : a 146 2 = 0) (hr4 : a 2 1 = 0) (hr5 : a 146 22 = 0) (hr6 : a 0 9 = 0) (hr7 : a 146 42 = 0) (hr8 : a 58 8 = 0) (hr9 : a 146 9 = 0) (hr10 : a 58 12 = 0) (hr11 : a 146 17 = 0) (hr12 : a 83 6 = 0) (hr13 : a 146 49 = 0) (hr14 : a 83 7 = 0) (hr15 : a 146 55 = 0) (hr16 : a 90 12 = 0) (hr17 : a 146 64 = 0) (hr18 : a 105 5 = 0) (hr19 : a 146 68 = 0) (hr20 : a 146 75 = 0) (hr21 : a 56 0 = 5) (hr22 : a 56 1 = 10) (hr23 : a 56 2 = 3) (hr24 : a 56 3 = 60) (hr25 : a 56 4 = 2) (hw142 : ∀ j : Nat, j < 8 → a 142 j = -1) (hw196 : ∀ j : Nat, j < 8 → a 196 j = -1) (hw143 : ∀ j : Nat, a 143 j = 0) (hw197 : ∀ j : Nat, a 197 j = 0) (hw144 : ∀ j : Nat, j < 8 → a 144 j = -1) (hw171 : ∀ j : Nat, (j = 0 → a 171 j = 5) ∧ (j = 1 → a 171 j = 10) ∧ (j = 2 → a 171 j = 3) ∧ (j = 3 → a 171 j = 60) ∧ (j = 4 → a 171 j = 2)) : jt (jxX E d 305 856 [some (.inr (.inr (.inl 3000))), some (.inr (.inr (.inl 0))), some (.inr (.inr (.inl 146))), some (.inl y3)] [] (jxSH, a, b)) (fun v _ _ => v = [.inl 1]) := by
  refine jt_eq (bq_law_856 E d y3 a b) ?_
  refine jt_bI (sp_X11_rings E d (jd_le hd rfl) a b hv) (fun r212_ a212_ b212_ h212_ => ?_)
  obtain ⟨hv212_, hf212_, hq212_0⟩ := h212_
  have h213_ := iv_get hv (k := 83) (j := 6) (l := 0) (u := 20) rfl
  refine jt_bI (sp_X12_rings E d (jd_le hd rfl) a212_ b212_ hv212_ (FO_fr hg3 hf212_ rfl rfl (fun _ => rfl)) (FW_fr hg4 hf212_ rfl (fun _ => rfl))) (fun r214_ a214_ b214_ h214_ => ?_)
  obtain ⟨hv214_, hf214_, rfl, hq214_0, hq214_1, hq214_2⟩ := h214_
  have h215_ := iv_get hv212_ (k := 146) (j := 49) (l := 0) (u := 20) rfl
  have h216_ : a212_ 146 49 = a 146 49 := hf212_ 146 49 rfl
  have h217_ := iv_get hv (k := 146) (j := 49) (l := 0) (u := 20) rfl
  refine jt_ite (fun c218_ => ?_) (fun c218_ => ?_)
  ·
    exact hnext a214_ b212_ 
  ·
    exact absurd (by omega : False) id
theorem lw_op869 (E : jxE) (d : Nat) (hd : Nat.ble 60 (d + 1) = true) (hL : E.1 ≤ 6) (y3 : Int) (hy0 : y3 = 0) (hy1 : y3 + 6 ≤ E.1) (hnext : ∀ (a b : Nat → Nat → Int), jt (jxX E d 305 1189 [some (.inr (.inr (.inl 3000))), some (.inr (.inr (.inl 0))), some (.inr (.inr (.inl 146))), some (.inl y3)] [] (jxSH, a, b)) (fun v _ _ => v = [.inl 1])) (a b : Nat → Nat → Int) (hv : iv a) (hg0 : WFW a) (hg1 : SV a) (hg2 : OC a) (hg3 : FO a) (hg4 : FW a) (hg5 : FARR a) (hr0 : a 0 0 = 0) (hr1 : a 146 0 = 0) (hr2 : a 4 6 = 0) (hr3 : a 146 2 = 0) (hr4 : a 2 1 = 0) (hr5 : a 146 22 = 0) (hr6 : a 0 9 = 0) (hr7 : a 146 42 = 0) (hr8 : a 58 8 = 0) (hr9 : a 146 9 = 0) (hr10 : a 58 12 = 0) (hr11 : a 146 17 = 0) (hr12 : a 83 6 = 0) (hr13 : a 146 49 = 0) (hr14 : a 83 7 = 0) (hr15 : a 146 55 = 0) (hr16 : a 90 12 = 0) (hr17 : a 146 64 = 0) (hr18 : a 105 5 = 0) (hr19 : a 146 68 = 0) (hr20 : a 146 75 = 0) (hr21 : a 56 0 = 5) (hr22 : a 56 1 = 10) (hr23 : a 56 2 = 3) (hr24 : a 56 3 = 60) (hr25 : a 56 4 = 2) (hw142 : ∀ j : Nat, j < 8 → a 142 j = -1) (hw196 : ∀ j : Nat, j < 8 → a 196 j = -1) (hw143 : ∀ j : Nat, a 143 j = 0) (hw197 : ∀ j : Nat, a 197 j = 0) (hw144 : ∀ j : Nat, j < 8 → a 144 j = -1) (hw171 : ∀ j : Nat, (j = 0 → a 171 j = 5) ∧ (j = 1 → a 171 j = 10) ∧ (j = 2 → a 171 j = 3) ∧ (j = 3 → a 171 j = 60) ∧ (j = 4 → a 171 j = 2)) : jt (jxX E d 305 869 [some (.inr (.inr (.inl 3000))), some (.inr (.inr (.inl 0))), some (.inr (.inr (.inl 146))), some (.inl y3)] [] (jxSH, a, b)) (fun v _ _ => v = [.inl 1]) := by
  refine jt_eq (bq_law_869 E d y3 a b) ?_
  refine jt_bif (Nat.ble_eq_true_of_le (by omega)) ?_
  have h219_ : jxw (y3 + 1) = y3 + 1 := jxw_id (by omega) (by omega)
  refine jt_grd (by omega) ?_
  refine jt_bif (Nat.ble_eq_true_of_le (by omega)) ?_
  have h220_ : jxw (y3 + 2) = y3 + 2 := jxw_id (by omega) (by omega)
  refine jt_grd (by omega) ?_
  refine jt_eI (eq_X11_ring E d (jd_le hd rfl) (E.2 ((jxw (y3 + 1)).toNat)) (E.2 ((jxw (y3 + 2)).toNat)) a b) ?_
  refine jt_bif (Nat.ble_eq_true_of_le (by omega)) ?_
  refine jt_grd (by omega) ?_
  refine jt_bif (Nat.ble_eq_true_of_le (by omega)) ?_
  refine jt_grd (by omega) ?_
  refine jt_eI (eq_X12_ring E d (jd_le hd rfl) (E.2 ((jxw (y3 + 1)).toNat)) (E.2 ((jxw (y3 + 2)).toNat)) a b hv) ?_
  have h221_ := f_X11_ring_eq a b (E.2 ((jxw (y3 + 1)).toNat)) (E.2 ((jxw (y3 + 2)).toNat))
  have h222_ := f_X5_offerAt_eq a b (E.2 ((jxw (y3 + 1)).toNat)) (E.2 ((jxw (y3 + 2)).toNat))
  have h223_ := f_X5_lengthOf_eq a b (E.2 ((jxw (y3 + 1)).toNat))
  have h224_ := iv_get hv (k := 90) (j := 12) (l := 0) (u := 6) rfl
  have h225_ := iv_get hv (k := 104) (j := (E.2 ((jxw (y3 + 1)).toNat)).toNat) (l := 0) (u := 5) rfl
  have h226_ := ff_X12_ring a b (E.2 ((jxw (y3 + 1)).toNat)) (E.2 ((jxw (y3 + 2)).toNat)) hv
  have h227_ := iv_get hv (k := 146) (j := 64) (l := 0) (u := 6) rfl
  refine jt_ite (fun c228_ => ?_) (fun c228_ => ?_)
  ·
    exact hnext a b 
  ·
    exact absurd (by omega : False) id
theorem lw_op902 (E : jxE) (d : Nat) (hd : Nat.ble 60 (d + 1) = true) (hL : E.1 ≤ 6) (y3 : Int) (hy0 : y3 = 0) (hy1 : y3 + 6 ≤ E.1) (hnext : ∀ (a b : Nat → Nat → Int), jt (jxX E d 305 1189 [some (.inr (.inr (.inl 3000))), some (.inr (.inr (.inl 0))), some (.inr (.inr (.inl 146))), some (.inl y3)] [] (jxSH, a, b)) (fun v _ _ => v = [.inl 1])) (a b : Nat → Nat → Int) (hv : iv a) (hg0 : WFW a) (hg1 : SV a) (hg2 : OC a) (hg3 : FO a) (hg4 : FW a) (hg5 : FARR a) (hr0 : a 0 0 = 0) (hr1 : a 146 0 = 0) (hr2 : a 4 6 = 0) (hr3 : a 146 2 = 0) (hr4 : a 2 1 = 0) (hr5 : a 146 22 = 0) (hr6 : a 0 9 = 0) (hr7 : a 146 42 = 0) (hr8 : a 58 8 = 0) (hr9 : a 146 9 = 0) (hr10 : a 58 12 = 0) (hr11 : a 146 17 = 0) (hr12 : a 83 6 = 0) (hr13 : a 146 49 = 0) (hr14 : a 83 7 = 0) (hr15 : a 146 55 = 0) (hr16 : a 90 12 = 0) (hr17 : a 146 64 = 0) (hr18 : a 105 5 = 0) (hr19 : a 146 68 = 0) (hr20 : a 146 75 = 0) (hr21 : a 56 0 = 5) (hr22 : a 56 1 = 10) (hr23 : a 56 2 = 3) (hr24 : a 56 3 = 60) (hr25 : a 56 4 = 2) (hw142 : ∀ j : Nat, j < 8 → a 142 j = -1) (hw196 : ∀ j : Nat, j < 8 → a 196 j = -1) (hw143 : ∀ j : Nat, a 143 j = 0) (hw197 : ∀ j : Nat, a 197 j = 0) (hw144 : ∀ j : Nat, j < 8 → a 144 j = -1) (hw171 : ∀ j : Nat, (j = 0 → a 171 j = 5) ∧ (j = 1 → a 171 j = 10) ∧ (j = 2 → a 171 j = 3) ∧ (j = 3 → a 171 j = 60) ∧ (j = 4 → a 171 j = 2)) : jt (jxX E d 305 902 [some (.inr (.inr (.inl 3000))), some (.inr (.inr (.inl 0))), some (.inr (.inr (.inl 146))), some (.inl y3)] [] (jxSH, a, b)) (fun v _ _ => v = [.inl 1]) := by
  refine jt_eq (bq_law_902 E d y3 a b) ?_
  refine jt_bif (Nat.ble_eq_true_of_le (by omega)) ?_
  have h229_ : jxw (y3 + 1) = y3 + 1 := jxw_id (by omega) (by omega)
  refine jt_grd (by omega) ?_
  refine jt_bI (sp_X11_close E d (jd_le hd rfl) (E.2 ((jxw (y3 + 1)).toNat)) a b hv) (fun r230_ a230_ b230_ h230_ => ?_)
  obtain ⟨hv230_, hf230_, rfl, hq230_0⟩ := h230_
  have h231_ := iv_get hv (k := 90) (j := 12) (l := 0) (u := 6) rfl
  refine jt_bif (Nat.ble_eq_true_of_le (by omega)) ?_
  refine jt_grd (by omega) ?_
  refine jt_bI (sp_X12_close E d (jd_le hd rfl) (E.2 ((jxw (y3 + 1)).toNat)) a230_ b hv230_ (OC_fr hg2 hf230_ rfl rfl (fun _ => rfl) (fun _ => rfl) (fun _ => rfl) (fun _ => rfl) (fun _ => rfl)) (FO_fr hg3 hf230_ rfl rfl (fun _ => rfl))) (fun r232_ a232_ b232_ h232_ => ?_)
  obtain ⟨hv232_, hf232_, rfl, hq232_0, hq232_1⟩ := h232_
  have h233_ := iv_get hv230_ (k := 146) (j := 64) (l := 0) (u := 6) rfl
  have h234_ : a230_ 146 64 = a 146 64 := hf230_ 146 64 rfl
  have h235_ := iv_get hv (k := 146) (j := 64) (l := 0) (u := 6) rfl
  refine jt_ite (fun c236_ => ?_) (fun c236_ => ?_)
  ·
    exact hnext a232_ b 
  ·
    exact absurd (by omega : False) id
theorem lw_op925 (E : jxE) (d : Nat) (hd : Nat.ble 60 (d + 1) = true) (hL : E.1 ≤ 6) (y3 : Int) (hy0 : y3 = 0) (hy1 : y3 + 6 ≤ E.1) (hnext : ∀ (a b : Nat → Nat → Int), jt (jxX E d 305 1189 [some (.inr (.inr (.inl 3000))), some (.inr (.inr (.inl 0))), some (.inr (.inr (.inl 146))), some (.inl y3)] [] (jxSH, a, b)) (fun v _ _ => v = [.inl 1])) (a b : Nat → Nat → Int) (hv : iv a) (hg0 : WFW a) (hg1 : SV a) (hg2 : OC a) (hg3 : FO a) (hg4 : FW a) (hg5 : FARR a) (hr0 : a 0 0 = 0) (hr1 : a 146 0 = 0) (hr2 : a 4 6 = 0) (hr3 : a 146 2 = 0) (hr4 : a 2 1 = 0) (hr5 : a 146 22 = 0) (hr6 : a 0 9 = 0) (hr7 : a 146 42 = 0) (hr8 : a 58 8 = 0) (hr9 : a 146 9 = 0) (hr10 : a 58 12 = 0) (hr11 : a 146 17 = 0) (hr12 : a 83 6 = 0) (hr13 : a 146 49 = 0) (hr14 : a 83 7 = 0) (hr15 : a 146 55 = 0) (hr16 : a 90 12 = 0) (hr17 : a 146 64 = 0) (hr18 : a 105 5 = 0) (hr19 : a 146 68 = 0) (hr20 : a 146 75 = 0) (hr21 : a 56 0 = 5) (hr22 : a 56 1 = 10) (hr23 : a 56 2 = 3) (hr24 : a 56 3 = 60) (hr25 : a 56 4 = 2) (hw142 : ∀ j : Nat, j < 8 → a 142 j = -1) (hw196 : ∀ j : Nat, j < 8 → a 196 j = -1) (hw143 : ∀ j : Nat, a 143 j = 0) (hw197 : ∀ j : Nat, a 197 j = 0) (hw144 : ∀ j : Nat, j < 8 → a 144 j = -1) (hw171 : ∀ j : Nat, (j = 0 → a 171 j = 5) ∧ (j = 1 → a 171 j = 10) ∧ (j = 2 → a 171 j = 3) ∧ (j = 3 → a 171 j = 60) ∧ (j = 4 → a 171 j = 2)) : jt (jxX E d 305 925 [some (.inr (.inr (.inl 3000))), some (.inr (.inr (.inl 0))), some (.inr (.inr (.inl 146))), some (.inl y3)] [] (jxSH, a, b)) (fun v _ _ => v = [.inl 1]) := by
  refine jt_eq (bq_law_925 E d y3 a b) ?_
  refine jt_bif (Nat.ble_eq_true_of_le (by omega)) ?_
  have h237_ : jxw (y3 + 1) = y3 + 1 := jxw_id (by omega) (by omega)
  refine jt_grd (by omega) ?_
  refine jt_bif (Nat.ble_eq_true_of_le (by omega)) ?_
  have h238_ : jxw (y3 + 2) = y3 + 2 := jxw_id (by omega) (by omega)
  refine jt_grd (by omega) ?_
  refine jt_bI (sp_X11_drop E d (jd_le hd rfl) (E.2 ((jxw (y3 + 1)).toNat)) (E.2 ((jxw (y3 + 2)).toNat)) a b hv) (fun r239_ a239_ b239_ h239_ => ?_)
  obtain ⟨hv239_, hf239_, rfl, hq239_0⟩ := h239_
  have h240_ := iv_get hv (k := 83) (j := 6) (l := 0) (u := 20) rfl
  refine jt_bif (Nat.ble_eq_true_of_le (by omega)) ?_
  refine jt_grd (by omega) ?_
  refine jt_bif (Nat.ble_eq_true_of_le (by omega)) ?_
  refine jt_grd (by omega) ?_
  refine jt_bI (sp_X12_drop E d (jd_le hd rfl) (E.2 ((jxw (y3 + 1)).toNat)) (E.2 ((jxw (y3 + 2)).toNat)) a239_ b hv239_ (OC_fr hg2 hf239_ rfl rfl (fun _ => rfl) (fun _ => rfl) (fun _ => rfl) (fun _ => rfl) (fun _ => rfl))) (fun r241_ a241_ b241_ h241_ => ?_)
  obtain ⟨hv241_, hf241_, rfl, hq241_0, hq241_1⟩ := h241_
  have h242_ : a239_ 146 55 = a 146 55 := hf239_ 146 55 rfl
  refine jt_ite (fun c243_ => ?_) (fun c243_ => ?_)
  ·
    exact hnext a241_ b 
  ·
    exact absurd (by omega : False) id
theorem lw_op958 (E : jxE) (d : Nat) (hd : Nat.ble 60 (d + 1) = true) (hL : E.1 ≤ 6) (y3 : Int) (hy0 : y3 = 0) (hy1 : y3 + 6 ≤ E.1) (hnext : ∀ (a b : Nat → Nat → Int), jt (jxX E d 305 1189 [some (.inr (.inr (.inl 3000))), some (.inr (.inr (.inl 0))), some (.inr (.inr (.inl 146))), some (.inl y3)] [] (jxSH, a, b)) (fun v _ _ => v = [.inl 1])) (a b : Nat → Nat → Int) (hv : iv a) (hg0 : WFW a) (hg1 : SV a) (hg2 : OC a) (hg3 : FO a) (hg4 : FW a) (hg5 : FARR a) (hr0 : a 0 0 = 0) (hr1 : a 146 0 = 0) (hr2 : a 4 6 = 0) (hr3 : a 146 2 = 0) (hr4 : a 2 1 = 0) (hr5 : a 146 22 = 0) (hr6 : a 0 9 = 0) (hr7 : a 146 42 = 0) (hr8 : a 58 8 = 0) (hr9 : a 146 9 = 0) (hr10 : a 58 12 = 0) (hr11 : a 146 17 = 0) (hr12 : a 83 6 = 0) (hr13 : a 146 49 = 0) (hr14 : a 83 7 = 0) (hr15 : a 146 55 = 0) (hr16 : a 90 12 = 0) (hr17 : a 146 64 = 0) (hr18 : a 105 5 = 0) (hr19 : a 146 68 = 0) (hr20 : a 146 75 = 0) (hr21 : a 56 0 = 5) (hr22 : a 56 1 = 10) (hr23 : a 56 2 = 3) (hr24 : a 56 3 = 60) (hr25 : a 56 4 = 2) (hw142 : ∀ j : Nat, j < 8 → a 142 j = -1) (hw196 : ∀ j : Nat, j < 8 → a 196 j = -1) (hw143 : ∀ j : Nat, a 143 j = 0) (hw197 : ∀ j : Nat, a 197 j = 0) (hw144 : ∀ j : Nat, j < 8 → a 144 j = -1) (hw171 : ∀ j : Nat, (j = 0 → a 171 j = 5) ∧ (j = 1 → a 171 j = 10) ∧ (j = 2 → a 171 j = 3) ∧ (j = 3 → a 171 j = 60) ∧ (j = 4 → a 171 j = 2)) : jt (jxX E d 305 958 [some (.inr (.inr (.inl 3000))), some (.inr (.inr (.inl 0))), some (.inr (.inr (.inl 146))), some (.inl y3)] [] (jxSH, a, b)) (fun v _ _ => v = [.inl 1]) := by
  refine jt_eq (bq_law_958 E d y3 a b) ?_
  refine jt_bif (Nat.ble_eq_true_of_le (by omega)) ?_
  have h244_ : jxw (y3 + 1) = y3 + 1 := jxw_id (by omega) (by omega)
  refine jt_grd (by omega) ?_
  refine jt_bif (Nat.ble_eq_true_of_le (by omega)) ?_
  have h245_ : jxw (y3 + 2) = y3 + 2 := jxw_id (by omega) (by omega)
  refine jt_grd (by omega) ?_
  refine jt_eI (eq_X11_offers E d (jd_le hd rfl) (E.2 ((jxw (y3 + 1)).toNat)) (E.2 ((jxw (y3 + 2)).toNat)) a b) ?_
  refine jt_bif (Nat.ble_eq_true_of_le (by omega)) ?_
  refine jt_grd (by omega) ?_
  refine jt_bif (Nat.ble_eq_true_of_le (by omega)) ?_
  refine jt_grd (by omega) ?_
  refine jt_eI (eq_X12_offers E d (jd_le hd rfl) (E.2 ((jxw (y3 + 1)).toNat)) (E.2 ((jxw (y3 + 2)).toNat)) a b hv) ?_
  have h246_ := f_X11_offers_eq a b (E.2 ((jxw (y3 + 1)).toNat)) (E.2 ((jxw (y3 + 2)).toNat))
  have h247_ := f_X4_memberOf_eq a b (E.2 ((jxw (y3 + 1)).toNat))
  have h248_ := iv_get hv (k := 83) (j := 6) (l := 0) (u := 20) rfl
  have h249_ := f_X11_entry_r84_eq a b (a 83 6) (E.2 ((jxw (y3 + 1)).toNat))
  have h250_ := f_X4_kindOf_eq a b (E.2 ((jxw (y3 + 1)).toNat))
  have h251_ := f_X11_entry_r85_eq a b (a 83 6) (E.2 ((jxw (y3 + 1)).toNat))
  have h252_ := f_X4_has_eq a b (E.2 ((jxw (y3 + 1)).toNat))
  have h253_ := f_X4_wantsOf_eq a b (E.2 ((jxw (y3 + 1)).toNat))
  have h254_ := f_X4_conditionOf_eq a b (E.2 ((jxw (y3 + 1)).toNat))
  have h255_ := f_X11_entry_r87_eq a b (a 83 6) (E.2 ((jxw (y3 + 1)).toNat))
  have h256_ := f_X4_ringOf_eq a b (E.2 ((jxw (y3 + 1)).toNat))
  have h257_ := f_X11_entry_r88_eq a b (a 83 6) (E.2 ((jxw (y3 + 1)).toNat))
  have h258_ := f_X12_offers_eq a b (E.2 ((jxw (y3 + 1)).toNat)) (E.2 ((jxw (y3 + 2)).toNat))
  have h259_ := iv_get hv (k := 146) (j := 49) (l := 0) (u := 20) rfl
  have h260_ : jxw ((a 146 49) - 1) = (a 146 49) - 1 := jxw_id (by omega) (by omega)
  have h261_ := f_X12_in_eq a b (E.2 ((jxw (y3 + 1)).toNat)) 0 (jxw ((a 146 49) - 1))
  have h262_ := iv_get hv (k := 178) (j := (E.2 ((jxw (y3 + 1)).toNat)).toNat) (l := 0) (u := 39) rfl
  have h263_ := iv_get hv (k := 179) (j := (E.2 ((jxw (y3 + 1)).toNat)).toNat) (l := 0) (u := 31) rfl
  have h264_ := iv_get hv (k := 181) (j := (E.2 ((jxw (y3 + 1)).toNat)).toNat) (l := 0) (u := 2) rfl
  refine jt_ite (fun c265_ => ?_) (fun c265_ => ?_)
  ·
    exact hnext a b 
  ·
    exact absurd (by omega : False) id
theorem lw_op991 (E : jxE) (d : Nat) (hd : Nat.ble 60 (d + 1) = true) (hL : E.1 ≤ 6) (y3 : Int) (hy0 : y3 = 0) (hy1 : y3 + 6 ≤ E.1) (hnext : ∀ (a b : Nat → Nat → Int), jt (jxX E d 305 1189 [some (.inr (.inr (.inl 3000))), some (.inr (.inr (.inl 0))), some (.inr (.inr (.inl 146))), some (.inl y3)] [] (jxSH, a, b)) (fun v _ _ => v = [.inl 1])) (a b : Nat → Nat → Int) (hv : iv a) (hg0 : WFW a) (hg1 : SV a) (hg2 : OC a) (hg3 : FO a) (hg4 : FW a) (hg5 : FARR a) (hr0 : a 0 0 = 0) (hr1 : a 146 0 = 0) (hr2 : a 4 6 = 0) (hr3 : a 146 2 = 0) (hr4 : a 2 1 = 0) (hr5 : a 146 22 = 0) (hr6 : a 0 9 = 0) (hr7 : a 146 42 = 0) (hr8 : a 58 8 = 0) (hr9 : a 146 9 = 0) (hr10 : a 58 12 = 0) (hr11 : a 146 17 = 0) (hr12 : a 83 6 = 0) (hr13 : a 146 49 = 0) (hr14 : a 83 7 = 0) (hr15 : a 146 55 = 0) (hr16 : a 90 12 = 0) (hr17 : a 146 64 = 0) (hr18 : a 105 5 = 0) (hr19 : a 146 68 = 0) (hr20 : a 146 75 = 0) (hr21 : a 56 0 = 5) (hr22 : a 56 1 = 10) (hr23 : a 56 2 = 3) (hr24 : a 56 3 = 60) (hr25 : a 56 4 = 2) (hw142 : ∀ j : Nat, j < 8 → a 142 j = -1) (hw196 : ∀ j : Nat, j < 8 → a 196 j = -1) (hw143 : ∀ j : Nat, a 143 j = 0) (hw197 : ∀ j : Nat, a 197 j = 0) (hw144 : ∀ j : Nat, j < 8 → a 144 j = -1) (hw171 : ∀ j : Nat, (j = 0 → a 171 j = 5) ∧ (j = 1 → a 171 j = 10) ∧ (j = 2 → a 171 j = 3) ∧ (j = 3 → a 171 j = 60) ∧ (j = 4 → a 171 j = 2)) : jt (jxX E d 305 991 [some (.inr (.inr (.inl 3000))), some (.inr (.inr (.inl 0))), some (.inr (.inr (.inl 146))), some (.inl y3)] [] (jxSH, a, b)) (fun v _ _ => v = [.inl 1]) := by
  refine jt_eq (bq_law_991 E d y3 a b) ?_
  refine jt_bif (Nat.ble_eq_true_of_le (by omega)) ?_
  have h266_ : jxw (y3 + 1) = y3 + 1 := jxw_id (by omega) (by omega)
  refine jt_grd (by omega) ?_
  refine jt_bI (sp_X11_rates E d (jd_le hd rfl) (E.2 ((jxw (y3 + 1)).toNat)) a b hv) (fun r267_ a267_ b267_ h267_ => ?_)
  obtain ⟨hv267_, hf267_, rfl, hq267_0⟩ := h267_
  have h268_ := iv_get hv (k := 2) (j := 1) (l := 0) (u := 200) rfl
  have h269_ := iv_get hv (k := 105) (j := 5) (l := 0) (u := 10) rfl
  refine jt_bif (Nat.ble_eq_true_of_le (by omega)) ?_
  refine jt_grd (by omega) ?_
  refine jt_bI (sp_X12_rates E d (jd_le hd rfl) (E.2 ((jxw (y3 + 1)).toNat)) a267_ b hv267_) (fun r270_ a270_ b270_ h270_ => ?_)
  obtain ⟨hv270_, hf270_, rfl, hq270_0⟩ := h270_
  have h271_ := iv_get hv267_ (k := 146) (j := 22) (l := 0) (u := 200) rfl
  have h272_ : a267_ 146 22 = a 146 22 := hf267_ 146 22 rfl
  have h273_ := iv_get hv (k := 146) (j := 22) (l := 0) (u := 200) rfl
  have h274_ := iv_get hv267_ (k := 146) (j := 68) (l := 0) (u := 10) rfl
  have h275_ : a267_ 146 68 = a 146 68 := hf267_ 146 68 rfl
  have h276_ := iv_get hv (k := 146) (j := 68) (l := 0) (u := 10) rfl
  refine jt_ite (fun c277_ => ?_) (fun c277_ => ?_)
  ·
    exact hnext a270_ b 
  ·
    exact absurd (by omega : False) id
theorem lw_op1014 (E : jxE) (d : Nat) (hd : Nat.ble 60 (d + 1) = true) (hL : E.1 ≤ 6) (y3 : Int) (hy0 : y3 = 0) (hy1 : y3 + 6 ≤ E.1) (hnext : ∀ (a b : Nat → Nat → Int), jt (jxX E d 305 1189 [some (.inr (.inr (.inl 3000))), some (.inr (.inr (.inl 0))), some (.inr (.inr (.inl 146))), some (.inl y3)] [] (jxSH, a, b)) (fun v _ _ => v = [.inl 1])) (a b : Nat → Nat → Int) (hv : iv a) (hg0 : WFW a) (hg1 : SV a) (hg2 : OC a) (hg3 : FO a) (hg4 : FW a) (hg5 : FARR a) (hr0 : a 0 0 = 0) (hr1 : a 146 0 = 0) (hr2 : a 4 6 = 0) (hr3 : a 146 2 = 0) (hr4 : a 2 1 = 0) (hr5 : a 146 22 = 0) (hr6 : a 0 9 = 0) (hr7 : a 146 42 = 0) (hr8 : a 58 8 = 0) (hr9 : a 146 9 = 0) (hr10 : a 58 12 = 0) (hr11 : a 146 17 = 0) (hr12 : a 83 6 = 0) (hr13 : a 146 49 = 0) (hr14 : a 83 7 = 0) (hr15 : a 146 55 = 0) (hr16 : a 90 12 = 0) (hr17 : a 146 64 = 0) (hr18 : a 105 5 = 0) (hr19 : a 146 68 = 0) (hr20 : a 146 75 = 0) (hr21 : a 56 0 = 5) (hr22 : a 56 1 = 10) (hr23 : a 56 2 = 3) (hr24 : a 56 3 = 60) (hr25 : a 56 4 = 2) (hw142 : ∀ j : Nat, j < 8 → a 142 j = -1) (hw196 : ∀ j : Nat, j < 8 → a 196 j = -1) (hw143 : ∀ j : Nat, a 143 j = 0) (hw197 : ∀ j : Nat, a 197 j = 0) (hw144 : ∀ j : Nat, j < 8 → a 144 j = -1) (hw171 : ∀ j : Nat, (j = 0 → a 171 j = 5) ∧ (j = 1 → a 171 j = 10) ∧ (j = 2 → a 171 j = 3) ∧ (j = 3 → a 171 j = 60) ∧ (j = 4 → a 171 j = 2)) : jt (jxX E d 305 1014 [some (.inr (.inr (.inl 3000))), some (.inr (.inr (.inl 0))), some (.inr (.inr (.inl 146))), some (.inl y3)] [] (jxSH, a, b)) (fun v _ _ => v = [.inl 1]) := by
  refine jt_eq (bq_law_1014 E d y3 a b) ?_
  refine jt_bif (Nat.ble_eq_true_of_le (by omega)) ?_
  have h278_ : jxw (y3 + 1) = y3 + 1 := jxw_id (by omega) (by omega)
  refine jt_grd (by omega) ?_
  refine jt_bif (Nat.ble_eq_true_of_le (by omega)) ?_
  have h279_ : jxw (y3 + 2) = y3 + 2 := jxw_id (by omega) (by omega)
  refine jt_grd (by omega) ?_
  refine jt_bif (Nat.ble_eq_true_of_le (by omega)) ?_
  have h280_ : jxw (y3 + 3) = y3 + 3 := jxw_id (by omega) (by omega)
  refine jt_grd (by omega) ?_
  refine jt_bif (Nat.ble_eq_true_of_le (by omega)) ?_
  have h281_ : jxw (y3 + 4) = y3 + 4 := jxw_id (by omega) (by omega)
  refine jt_grd (by omega) ?_
  refine jt_bI (sp_X11_price E d (jd_le hd rfl) (E.2 ((jxw (y3 + 1)).toNat)) (E.2 ((jxw (y3 + 2)).toNat)) (E.2 ((jxw (y3 + 3)).toNat)) (E.2 ((jxw (y3 + 4)).toNat)) a b hv) (fun r282_ a282_ b282_ h282_ => ?_)
  obtain ⟨rfl, rfl, hq282_0⟩ := h282_
  have h283_ := iv_get hv (k := 105) (j := 5) (l := 0) (u := 10) rfl
  refine jt_bif (Nat.ble_eq_true_of_le (by omega)) ?_
  refine jt_grd (by omega) ?_
  refine jt_bif (Nat.ble_eq_true_of_le (by omega)) ?_
  refine jt_grd (by omega) ?_
  refine jt_bif (Nat.ble_eq_true_of_le (by omega)) ?_
  refine jt_grd (by omega) ?_
  refine jt_bif (Nat.ble_eq_true_of_le (by omega)) ?_
  refine jt_grd (by omega) ?_
  refine jt_bI (sp_X12_price E d (jd_le hd rfl) (E.2 ((jxw (y3 + 1)).toNat)) (E.2 ((jxw (y3 + 2)).toNat)) (E.2 ((jxw (y3 + 3)).toNat)) (E.2 ((jxw (y3 + 4)).toNat)) a b hv) (fun r284_ a284_ b284_ h284_ => ?_)
  obtain ⟨rfl, rfl, hq284_0⟩ := h284_
  have h285_ := iv_get hv (k := 146) (j := 68) (l := 0) (u := 10) rfl
  refine jt_ite (fun c286_ => ?_) (fun c286_ => ?_)
  ·
    exact hnext a b 
  ·
    exact absurd (by omega : False) id
theorem lw_op1067 (E : jxE) (d : Nat) (hd : Nat.ble 60 (d + 1) = true) (hL : E.1 ≤ 6) (y3 : Int) (hy0 : y3 = 0) (hy1 : y3 + 6 ≤ E.1) (hnext : ∀ (a b : Nat → Nat → Int), jt (jxX E d 305 1189 [some (.inr (.inr (.inl 3000))), some (.inr (.inr (.inl 0))), some (.inr (.inr (.inl 146))), some (.inl y3)] [] (jxSH, a, b)) (fun v _ _ => v = [.inl 1])) (a b : Nat → Nat → Int) (hv : iv a) (hg0 : WFW a) (hg1 : SV a) (hg2 : OC a) (hg3 : FO a) (hg4 : FW a) (hg5 : FARR a) (hr0 : a 0 0 = 0) (hr1 : a 146 0 = 0) (hr2 : a 4 6 = 0) (hr3 : a 146 2 = 0) (hr4 : a 2 1 = 0) (hr5 : a 146 22 = 0) (hr6 : a 0 9 = 0) (hr7 : a 146 42 = 0) (hr8 : a 58 8 = 0) (hr9 : a 146 9 = 0) (hr10 : a 58 12 = 0) (hr11 : a 146 17 = 0) (hr12 : a 83 6 = 0) (hr13 : a 146 49 = 0) (hr14 : a 83 7 = 0) (hr15 : a 146 55 = 0) (hr16 : a 90 12 = 0) (hr17 : a 146 64 = 0) (hr18 : a 105 5 = 0) (hr19 : a 146 68 = 0) (hr20 : a 146 75 = 0) (hr21 : a 56 0 = 5) (hr22 : a 56 1 = 10) (hr23 : a 56 2 = 3) (hr24 : a 56 3 = 60) (hr25 : a 56 4 = 2) (hw142 : ∀ j : Nat, j < 8 → a 142 j = -1) (hw196 : ∀ j : Nat, j < 8 → a 196 j = -1) (hw143 : ∀ j : Nat, a 143 j = 0) (hw197 : ∀ j : Nat, a 197 j = 0) (hw144 : ∀ j : Nat, j < 8 → a 144 j = -1) (hw171 : ∀ j : Nat, (j = 0 → a 171 j = 5) ∧ (j = 1 → a 171 j = 10) ∧ (j = 2 → a 171 j = 3) ∧ (j = 3 → a 171 j = 60) ∧ (j = 4 → a 171 j = 2)) : jt (jxX E d 305 1067 [some (.inr (.inr (.inl 3000))), some (.inr (.inr (.inl 0))), some (.inr (.inr (.inl 146))), some (.inl y3)] [] (jxSH, a, b)) (fun v _ _ => v = [.inl 1]) := by
  refine jt_eq (bq_law_1067 E d y3 a b) ?_
  refine jt_bif (Nat.ble_eq_true_of_le (by omega)) ?_
  have h287_ : jxw (y3 + 1) = y3 + 1 := jxw_id (by omega) (by omega)
  refine jt_grd (by omega) ?_
  refine jt_bif (Nat.ble_eq_true_of_le (by omega)) ?_
  have h288_ : jxw (y3 + 2) = y3 + 2 := jxw_id (by omega) (by omega)
  refine jt_grd (by omega) ?_
  refine jt_bif (Nat.ble_eq_true_of_le (by omega)) ?_
  have h289_ : jxw (y3 + 3) = y3 + 3 := jxw_id (by omega) (by omega)
  refine jt_grd (by omega) ?_
  refine jt_bI (sp_X11_stamps E d (jd_le hd rfl) (E.2 ((jxw (y3 + 1)).toNat)) (E.2 ((jxw (y3 + 2)).toNat)) (E.2 ((jxw (y3 + 3)).toNat)) a b hv) (fun r290_ a290_ b290_ h290_ => ?_)
  obtain ⟨hv290_, hf290_, rfl, hq290_0, hq290_1⟩ := h290_
  refine jt_bif (Nat.ble_eq_true_of_le (by omega)) ?_
  refine jt_grd (by omega) ?_
  refine jt_bif (Nat.ble_eq_true_of_le (by omega)) ?_
  refine jt_grd (by omega) ?_
  refine jt_bif (Nat.ble_eq_true_of_le (by omega)) ?_
  refine jt_grd (by omega) ?_
  refine jt_bI (sp_X12_stamps E d (jd_le hd rfl) (E.2 ((jxw (y3 + 1)).toNat)) (E.2 ((jxw (y3 + 2)).toNat)) (E.2 ((jxw (y3 + 3)).toNat)) a290_ b hv290_ (SV_fr hg1 hf290_ (fun _ => rfl) (fun _ => rfl))) (fun r291_ a291_ b291_ h291_ => ?_)
  obtain ⟨hv291_, hf291_, rfl, hq291_0, hq291_1, hq291_2⟩ := h291_
  refine jt_ite (fun c292_ => ?_) (fun c292_ => ?_)
  ·
    exact hnext a291_ b 
  ·
    exact absurd (by omega : False) id
theorem lw_op1110 (E : jxE) (d : Nat) (hd : Nat.ble 60 (d + 1) = true) (hL : E.1 ≤ 6) (y3 : Int) (hy0 : y3 = 0) (hy1 : y3 + 6 ≤ E.1) (hnext : ∀ (a b : Nat → Nat → Int), jt (jxX E d 305 1189 [some (.inr (.inr (.inl 3000))), some (.inr (.inr (.inl 0))), some (.inr (.inr (.inl 146))), some (.inl y3)] [] (jxSH, a, b)) (fun v _ _ => v = [.inl 1])) (a b : Nat → Nat → Int) (hv : iv a) (hg0 : WFW a) (hg1 : SV a) (hg2 : OC a) (hg3 : FO a) (hg4 : FW a) (hg5 : FARR a) (hr0 : a 0 0 = 0) (hr1 : a 146 0 = 0) (hr2 : a 4 6 = 0) (hr3 : a 146 2 = 0) (hr4 : a 2 1 = 0) (hr5 : a 146 22 = 0) (hr6 : a 0 9 = 0) (hr7 : a 146 42 = 0) (hr8 : a 58 8 = 0) (hr9 : a 146 9 = 0) (hr10 : a 58 12 = 0) (hr11 : a 146 17 = 0) (hr12 : a 83 6 = 0) (hr13 : a 146 49 = 0) (hr14 : a 83 7 = 0) (hr15 : a 146 55 = 0) (hr16 : a 90 12 = 0) (hr17 : a 146 64 = 0) (hr18 : a 105 5 = 0) (hr19 : a 146 68 = 0) (hr20 : a 146 75 = 0) (hr21 : a 56 0 = 5) (hr22 : a 56 1 = 10) (hr23 : a 56 2 = 3) (hr24 : a 56 3 = 60) (hr25 : a 56 4 = 2) (hw142 : ∀ j : Nat, j < 8 → a 142 j = -1) (hw196 : ∀ j : Nat, j < 8 → a 196 j = -1) (hw143 : ∀ j : Nat, a 143 j = 0) (hw197 : ∀ j : Nat, a 197 j = 0) (hw144 : ∀ j : Nat, j < 8 → a 144 j = -1) (hw171 : ∀ j : Nat, (j = 0 → a 171 j = 5) ∧ (j = 1 → a 171 j = 10) ∧ (j = 2 → a 171 j = 3) ∧ (j = 3 → a 171 j = 60) ∧ (j = 4 → a 171 j = 2)) : jt (jxX E d 305 1110 [some (.inr (.inr (.inl 3000))), some (.inr (.inr (.inl 0))), some (.inr (.inr (.inl 146))), some (.inl y3)] [] (jxSH, a, b)) (fun v _ _ => v = [.inl 1]) := by
  refine jt_eq (bq_law_1110 E d y3 a b) ?_
  refine jt_bif (Nat.ble_eq_true_of_le (by omega)) ?_
  have h293_ : jxw (y3 + 1) = y3 + 1 := jxw_id (by omega) (by omega)
  refine jt_grd (by omega) ?_
  refine jt_bif (Nat.ble_eq_true_of_le (by omega)) ?_
  have h294_ : jxw (y3 + 2) = y3 + 2 := jxw_id (by omega) (by omega)
  refine jt_grd (by omega) ?_
  refine jt_bI (sp_X11_pay E d (jd_le hd rfl) (E.2 ((jxw (y3 + 1)).toNat)) (E.2 ((jxw (y3 + 2)).toNat)) a b hv) (fun r295_ a295_ b295_ h295_ => ?_)
  obtain ⟨hv295_, hf295_, hq295_0⟩ := h295_
  have h296_ := iv_get hv (k := 58) (j := 8) (l := 0) (u := 300) rfl
  refine jt_bif (Nat.ble_eq_true_of_le (by omega)) ?_
  refine jt_grd (by omega) ?_
  refine jt_bif (Nat.ble_eq_true_of_le (by omega)) ?_
  refine jt_grd (by omega) ?_
  refine jt_bI (sp_X12_pay E d (jd_le hd rfl) (E.2 ((jxw (y3 + 1)).toNat)) (E.2 ((jxw (y3 + 2)).toNat)) a295_ b295_ hv295_ (SV_fr hg1 hf295_ (fun _ => rfl) (fun _ => rfl))) (fun r297_ a297_ b297_ h297_ => ?_)
  obtain ⟨hv297_, hf297_, rfl, hq297_0, hq297_1⟩ := h297_
  have h298_ := iv_get hv295_ (k := 146) (j := 9) (l := 0) (u := 300) rfl
  have h299_ : a295_ 146 9 = a 146 9 := hf295_ 146 9 rfl
  have h300_ := iv_get hv (k := 146) (j := 9) (l := 0) (u := 300) rfl
  refine jt_ite (fun c301_ => ?_) (fun c301_ => ?_)
  ·
    exact hnext a297_ b295_ 
  ·
    exact absurd (by omega : False) id
theorem lw_op1143 (E : jxE) (d : Nat) (hd : Nat.ble 60 (d + 1) = true) (hL : E.1 ≤ 6) (y3 : Int) (hy0 : y3 = 0) (hy1 : y3 + 6 ≤ E.1) (hnext : ∀ (a b : Nat → Nat → Int), jt (jxX E d 305 1189 [some (.inr (.inr (.inl 3000))), some (.inr (.inr (.inl 0))), some (.inr (.inr (.inl 146))), some (.inl y3)] [] (jxSH, a, b)) (fun v _ _ => v = [.inl 1])) (a b : Nat → Nat → Int) (hv : iv a) (hg0 : WFW a) (hg1 : SV a) (hg2 : OC a) (hg3 : FO a) (hg4 : FW a) (hg5 : FARR a) (hr0 : a 0 0 = 0) (hr1 : a 146 0 = 0) (hr2 : a 4 6 = 0) (hr3 : a 146 2 = 0) (hr4 : a 2 1 = 0) (hr5 : a 146 22 = 0) (hr6 : a 0 9 = 0) (hr7 : a 146 42 = 0) (hr8 : a 58 8 = 0) (hr9 : a 146 9 = 0) (hr10 : a 58 12 = 0) (hr11 : a 146 17 = 0) (hr12 : a 83 6 = 0) (hr13 : a 146 49 = 0) (hr14 : a 83 7 = 0) (hr15 : a 146 55 = 0) (hr16 : a 90 12 = 0) (hr17 : a 146 64 = 0) (hr18 : a 105 5 = 0) (hr19 : a 146 68 = 0) (hr20 : a 146 75 = 0) (hr21 : a 56 0 = 5) (hr22 : a 56 1 = 10) (hr23 : a 56 2 = 3) (hr24 : a 56 3 = 60) (hr25 : a 56 4 = 2) (hw142 : ∀ j : Nat, j < 8 → a 142 j = -1) (hw196 : ∀ j : Nat, j < 8 → a 196 j = -1) (hw143 : ∀ j : Nat, a 143 j = 0) (hw197 : ∀ j : Nat, a 197 j = 0) (hw144 : ∀ j : Nat, j < 8 → a 144 j = -1) (hw171 : ∀ j : Nat, (j = 0 → a 171 j = 5) ∧ (j = 1 → a 171 j = 10) ∧ (j = 2 → a 171 j = 3) ∧ (j = 3 → a 171 j = 60) ∧ (j = 4 → a 171 j = 2)) : jt (jxX E d 305 1143 [some (.inr (.inr (.inl 3000))), some (.inr (.inr (.inl 0))), some (.inr (.inr (.inl 146))), some (.inl y3)] [] (jxSH, a, b)) (fun v _ _ => v = [.inl 1]) := by
  refine jt_eq (bq_law_1143 E d y3 a b) ?_
  refine jt_bif (Nat.ble_eq_true_of_le (by omega)) ?_
  have h302_ : jxw (y3 + 1) = y3 + 1 := jxw_id (by omega) (by omega)
  refine jt_grd (by omega) ?_
  refine jt_eI (eq_X11_paid E d (jd_le hd rfl) (E.2 ((jxw (y3 + 1)).toNat)) a b) ?_
  refine jt_bif (Nat.ble_eq_true_of_le (by omega)) ?_
  refine jt_grd (by omega) ?_
  refine jt_eI (eq_X12_paid E d (jd_le hd rfl) (E.2 ((jxw (y3 + 1)).toNat)) a b) ?_
  have h303_ := f_X11_paid_eq a b (E.2 ((jxw (y3 + 1)).toNat))
  have h304_ := f_X1_wentOf_eq a b (E.2 ((jxw (y3 + 1)).toNat))
  have h305_ := f_X11_entry_r144_eq a b 8 (E.2 ((jxw (y3 + 1)).toNat))
  have h306_ := hw144 ((E.2 ((jxw (y3 + 1)).toNat)).toNat)
  have h307_ := f_X12_paid_eq a b (E.2 ((jxw (y3 + 1)).toNat))
  have h308_ := f_X12_in_eq a b (E.2 ((jxw (y3 + 1)).toNat)) 0 7
  refine jt_ite (fun c309_ => ?_) (fun c309_ => ?_)
  ·
    exact hnext a b 
  ·
    exact absurd (by omega : False) id
theorem lw_op1166 (E : jxE) (d : Nat) (hd : Nat.ble 60 (d + 1) = true) (hL : E.1 ≤ 6) (y3 : Int) (hy0 : y3 = 0) (hy1 : y3 + 6 ≤ E.1) (hnext : ∀ (a b : Nat → Nat → Int), jt (jxX E d 305 1189 [some (.inr (.inr (.inl 3000))), some (.inr (.inr (.inl 0))), some (.inr (.inr (.inl 146))), some (.inl y3)] [] (jxSH, a, b)) (fun v _ _ => v = [.inl 1])) (a b : Nat → Nat → Int) (hv : iv a) (hg0 : WFW a) (hg1 : SV a) (hg2 : OC a) (hg3 : FO a) (hg4 : FW a) (hg5 : FARR a) (hr0 : a 0 0 = 0) (hr1 : a 146 0 = 0) (hr2 : a 4 6 = 0) (hr3 : a 146 2 = 0) (hr4 : a 2 1 = 0) (hr5 : a 146 22 = 0) (hr6 : a 0 9 = 0) (hr7 : a 146 42 = 0) (hr8 : a 58 8 = 0) (hr9 : a 146 9 = 0) (hr10 : a 58 12 = 0) (hr11 : a 146 17 = 0) (hr12 : a 83 6 = 0) (hr13 : a 146 49 = 0) (hr14 : a 83 7 = 0) (hr15 : a 146 55 = 0) (hr16 : a 90 12 = 0) (hr17 : a 146 64 = 0) (hr18 : a 105 5 = 0) (hr19 : a 146 68 = 0) (hr20 : a 146 75 = 0) (hr21 : a 56 0 = 5) (hr22 : a 56 1 = 10) (hr23 : a 56 2 = 3) (hr24 : a 56 3 = 60) (hr25 : a 56 4 = 2) (hw142 : ∀ j : Nat, j < 8 → a 142 j = -1) (hw196 : ∀ j : Nat, j < 8 → a 196 j = -1) (hw143 : ∀ j : Nat, a 143 j = 0) (hw197 : ∀ j : Nat, a 197 j = 0) (hw144 : ∀ j : Nat, j < 8 → a 144 j = -1) (hw171 : ∀ j : Nat, (j = 0 → a 171 j = 5) ∧ (j = 1 → a 171 j = 10) ∧ (j = 2 → a 171 j = 3) ∧ (j = 3 → a 171 j = 60) ∧ (j = 4 → a 171 j = 2)) : jt (jxX E d 305 1166 [some (.inr (.inr (.inl 3000))), some (.inr (.inr (.inl 0))), some (.inr (.inr (.inl 146))), some (.inl y3)] [] (jxSH, a, b)) (fun v _ _ => v = [.inl 1]) := by
  refine jt_eq (bq_law_1166 E d y3 a b) ?_
  refine jt_bif (Nat.ble_eq_true_of_le (by omega)) ?_
  have h310_ : jxw (y3 + 1) = y3 + 1 := jxw_id (by omega) (by omega)
  refine jt_grd (by omega) ?_
  refine jt_bI (sp_X11_count E d (jd_le hd rfl) (E.2 ((jxw (y3 + 1)).toNat)) a b hv) (fun r311_ a311_ b311_ h311_ => ?_)
  obtain ⟨rfl, rfl, hq311_0, hq311_1, hq311_2, hq311_3, hq311_4, hq311_5, hq311_6, hq311_7, hq311_8, hq311_9, hq311_10, hq311_11, hq311_12, hq311_13, hq311_14, hq311_15, hq311_16, hq311_17⟩ := h311_
  have h312_ := iv_get hv (k := 0) (j := 0) (l := 0) (u := 1999) rfl
  have h313_ := iv_get hv (k := 4) (j := 6) (l := 0) (u := 40) rfl
  have h314_ := iv_get hv (k := 58) (j := 8) (l := 0) (u := 300) rfl
  have h315_ := iv_get hv (k := 58) (j := 12) (l := 0) (u := 600) rfl
  have h316_ := iv_get hv (k := 83) (j := 6) (l := 0) (u := 20) rfl
  have h317_ := iv_get hv (k := 105) (j := 5) (l := 0) (u := 10) rfl
  have h318_ := iv_get hv (k := 2) (j := 1) (l := 0) (u := 200) rfl
  have h319_ := iv_get hv (k := 0) (j := 9) (l := 0) (u := 8) rfl
  refine jt_bif (Nat.ble_eq_true_of_le (by omega)) ?_
  refine jt_grd (by omega) ?_
  refine jt_bI (sp_X12_count E d (jd_le hd rfl) (E.2 ((jxw (y3 + 1)).toNat)) a b hv) (fun r320_ a320_ b320_ h320_ => ?_)
  obtain ⟨rfl, rfl, hq320_0, hq320_1, hq320_2, hq320_3, hq320_4, hq320_5, hq320_6, hq320_7, hq320_8, hq320_9, hq320_10, hq320_11, hq320_12, hq320_13⟩ := h320_
  have h321_ := iv_get hv (k := 146) (j := 0) (l := 0) (u := 1999) rfl
  have h322_ := iv_get hv (k := 146) (j := 2) (l := 0) (u := 40) rfl
  have h323_ := iv_get hv (k := 146) (j := 9) (l := 0) (u := 300) rfl
  have h324_ := iv_get hv (k := 146) (j := 17) (l := 0) (u := 600) rfl
  have h325_ := iv_get hv (k := 146) (j := 49) (l := 0) (u := 20) rfl
  have h326_ := iv_get hv (k := 146) (j := 68) (l := 0) (u := 10) rfl
  have h327_ := iv_get hv (k := 146) (j := 22) (l := 0) (u := 200) rfl
  have h328_ := iv_get hv (k := 146) (j := 42) (l := 0) (u := 8) rfl
  refine jt_ite (fun c329_ => ?_) (fun c329_ => ?_)
  ·
    exact hnext a b 
  ·
    exact absurd (by omega : False) id
theorem lw_18 (E : jxE) (d : Nat) (hd : Nat.ble 60 (d + 1) = true) (hL : E.1 ≤ 6) (y3 : Int) (hy0 : y3 = 0) (a b : Nat → Nat → Int) (hv : iv a) (hg0 : WFW a) (hg1 : SV a) (hg2 : OC a) (hg3 : FO a) (hg4 : FW a) (hg5 : FARR a) (hr0 : a 0 0 = 0) (hr1 : a 146 0 = 0) (hr2 : a 4 6 = 0) (hr3 : a 146 2 = 0) (hr4 : a 2 1 = 0) (hr5 : a 146 22 = 0) (hr6 : a 0 9 = 0) (hr7 : a 146 42 = 0) (hr8 : a 58 8 = 0) (hr9 : a 146 9 = 0) (hr10 : a 58 12 = 0) (hr11 : a 146 17 = 0) (hr12 : a 83 6 = 0) (hr13 : a 146 49 = 0) (hr14 : a 83 7 = 0) (hr15 : a 146 55 = 0) (hr16 : a 90 12 = 0) (hr17 : a 146 64 = 0) (hr18 : a 105 5 = 0) (hr19 : a 146 68 = 0) (hr20 : a 146 75 = 0) (hr21 : a 56 0 = 5) (hr22 : a 56 1 = 10) (hr23 : a 56 2 = 3) (hr24 : a 56 3 = 60) (hr25 : a 56 4 = 2) (hw142 : ∀ j : Nat, j < 8 → a 142 j = -1) (hw196 : ∀ j : Nat, j < 8 → a 196 j = -1) (hw143 : ∀ j : Nat, a 143 j = 0) (hw197 : ∀ j : Nat, a 197 j = 0) (hw144 : ∀ j : Nat, j < 8 → a 144 j = -1) (hw171 : ∀ j : Nat, (j = 0 → a 171 j = 5) ∧ (j = 1 → a 171 j = 10) ∧ (j = 2 → a 171 j = 3) ∧ (j = 3 → a 171 j = 60) ∧ (j = 4 → a 171 j = 2)) : jt (jxX E d 305 18 [some (.inr (.inr (.inl 3000))), some (.inr (.inr (.inl 0))), some (.inr (.inr (.inl 146))), some (.inl y3)] [] (jxSH, a, b)) (fun v _ _ => v = [.inl 1]) := by
  refine jt_eq (bq_law_18 E d y3 a b) ?_
  have e6 : jxw ((E.1 : Int) - 6) = (E.1 : Int) - 6 := jxw_id (by omega) (by omega)
  have hnext : ∀ (a b : Nat → Nat → Int), jt (jxX E d 305 1189 [some (.inr (.inr (.inl 3000))), some (.inr (.inr (.inl 0))), some (.inr (.inr (.inl 146))), some (.inl y3)] [] (jxSH, a, b)) (fun v _ _ => v = [.inl 1]) := fun a b => by
    refine jt_eq (bq_law_1189 E d y3 a b) ?_
    have e : jxw (y3 + 6) = 6 := by rw [hy0]; decide +kernel
    rw [e]
    refine jt_eq (bq_law_18 E d 6 a b) ?_
    refine jt_bif (Nat.ble_eq_true_of_le (by omega)) ?_
    exact jt_ite (fun c1 => ⟨_, _, _, rfl, rfl⟩) (fun c1 => absurd (by omega : False) id)
  refine jt_bif (Nat.ble_eq_true_of_le (by omega)) ?_
  refine jt_ite (fun c1 => ?_) (fun c1 => ?_)
  · exact ⟨_, _, _, rfl, rfl⟩
  ·
    refine jt_bif (Nat.ble_eq_true_of_le (by omega)) ?_
    refine jt_grd (by omega) ?_
    have h330_ := jxand_r (E.2 (y3.toNat)) 63 (by decide) (by decide)
    refine jt_ite (fun c331_ => ?_) (fun c331_ => ?_)
    ·
      exact hnext a b 
    ·
      refine jt_ite (fun c332_ => ?_) (fun c332_ => ?_)
      ·
        exact lw_op180 E d hd hL y3 hy0 (by omega) hnext a b hv hg0 hg1 hg2 hg3 hg4 hg5 hr0 hr1 hr2 hr3 hr4 hr5 hr6 hr7 hr8 hr9 hr10 hr11 hr12 hr13 hr14 hr15 hr16 hr17 hr18 hr19 hr20 hr21 hr22 hr23 hr24 hr25 hw142 hw196 hw143 hw197 hw144 hw171
      ·
        refine jt_ite (fun c333_ => ?_) (fun c333_ => ?_)
        ·
          exact lw_op203 E d hd hL y3 hy0 (by omega) hnext a b hv hg0 hg1 hg2 hg3 hg4 hg5 hr0 hr1 hr2 hr3 hr4 hr5 hr6 hr7 hr8 hr9 hr10 hr11 hr12 hr13 hr14 hr15 hr16 hr17 hr18 hr19 hr20 hr21 hr22 hr23 hr24 hr25 hw142 hw196 hw143 hw197 hw144 hw171
        ·
          refine jt_ite (fun c334_ => ?_) (fun c334_ => ?_)
          ·
            exact lw_op246 E d hd hL y3 hy0 (by omega) hnext a b hv hg0 hg1 hg2 hg3 hg4 hg5 hr0 hr1 hr2 hr3 hr4 hr5 hr6 hr7 hr8 hr9 hr10 hr11 hr12 hr13 hr14 hr15 hr16 hr17 hr18 hr19 hr20 hr21 hr22 hr23 hr24 hr25 hw142 hw196 hw143 hw197 hw144 hw171
          ·
            refine jt_ite (fun c335_ => ?_) (fun c335_ => ?_)
            ·
              exact lw_op289 E d hd hL y3 hy0 (by omega) hnext a b hv hg0 hg1 hg2 hg3 hg4 hg5 hr0 hr1 hr2 hr3 hr4 hr5 hr6 hr7 hr8 hr9 hr10 hr11 hr12 hr13 hr14 hr15 hr16 hr17 hr18 hr19 hr20 hr21 hr22 hr23 hr24 hr25 hw142 hw196 hw143 hw197 hw144 hw171
            ·
              refine jt_ite (fun c336_ => ?_) (fun c336_ => ?_)
              ·
                exact lw_op312 E d hd hL y3 hy0 (by omega) hnext a b hv hg0 hg1 hg2 hg3 hg4 hg5 hr0 hr1 hr2 hr3 hr4 hr5 hr6 hr7 hr8 hr9 hr10 hr11 hr12 hr13 hr14 hr15 hr16 hr17 hr18 hr19 hr20 hr21 hr22 hr23 hr24 hr25 hw142 hw196 hw143 hw197 hw144 hw171
              ·
                refine jt_ite (fun c337_ => ?_) (fun c337_ => ?_)
                ·
                  exact lw_op375 E d hd hL y3 hy0 (by omega) hnext a b hv hg0 hg1 hg2 hg3 hg4 hg5 hr0 hr1 hr2 hr3 hr4 hr5 hr6 hr7 hr8 hr9 hr10 hr11 hr12 hr13 hr14 hr15 hr16 hr17 hr18 hr19 hr20 hr21 hr22 hr23 hr24 hr25 hw142 hw196 hw143 hw197 hw144 hw171
                ·
                  refine jt_ite (fun c338_ => ?_) (fun c338_ => ?_)
                  ·
                    exact lw_op398 E d hd hL y3 hy0 (by omega) hnext a b hv hg0 hg1 hg2 hg3 hg4 hg5 hr0 hr1 hr2 hr3 hr4 hr5 hr6 hr7 hr8 hr9 hr10 hr11 hr12 hr13 hr14 hr15 hr16 hr17 hr18 hr19 hr20 hr21 hr22 hr23 hr24 hr25 hw142 hw196 hw143 hw197 hw144 hw171
                  ·
                    refine jt_ite (fun c339_ => ?_) (fun c339_ => ?_)
                    ·
                      exact lw_op421 E d hd hL y3 hy0 (by omega) hnext a b hv hg0 hg1 hg2 hg3 hg4 hg5 hr0 hr1 hr2 hr3 hr4 hr5 hr6 hr7 hr8 hr9 hr10 hr11 hr12 hr13 hr14 hr15 hr16 hr17 hr18 hr19 hr20 hr21 hr22 hr23 hr24 hr25 hw142 hw196 hw143 hw197 hw144 hw171
                    ·
                      refine jt_ite (fun c340_ => ?_) (fun c340_ => ?_)
                      ·
                        exact lw_op454 E d hd hL y3 hy0 (by omega) hnext a b hv hg0 hg1 hg2 hg3 hg4 hg5 hr0 hr1 hr2 hr3 hr4 hr5 hr6 hr7 hr8 hr9 hr10 hr11 hr12 hr13 hr14 hr15 hr16 hr17 hr18 hr19 hr20 hr21 hr22 hr23 hr24 hr25 hw142 hw196 hw143 hw197 hw144 hw171
                      ·
                        refine jt_ite (fun c341_ => ?_) (fun c341_ => ?_)
                        ·
                          exact lw_op467 E d hd hL y3 hy0 (by omega) hnext a b hv hg0 hg1 hg2 hg3 hg4 hg5 hr0 hr1 hr2 hr3 hr4 hr5 hr6 hr7 hr8 hr9 hr10 hr11 hr12 hr13 hr14 hr15 hr16 hr17 hr18 hr19 hr20 hr21 hr22 hr23 hr24 hr25 hw142 hw196 hw143 hw197 hw144 hw171
                        ·
                          refine jt_ite (fun c342_ => ?_) (fun c342_ => ?_)
                          ·
                            exact lw_op490 E d hd hL y3 hy0 (by omega) hnext a b hv hg0 hg1 hg2 hg3 hg4 hg5 hr0 hr1 hr2 hr3 hr4 hr5 hr6 hr7 hr8 hr9 hr10 hr11 hr12 hr13 hr14 hr15 hr16 hr17 hr18 hr19 hr20 hr21 hr22 hr23 hr24 hr25 hw142 hw196 hw143 hw197 hw144 hw171
                          ·
                            refine jt_ite (fun c343_ => ?_) (fun c343_ => ?_)
                            ·
                              exact lw_op523 E d hd hL y3 hy0 (by omega) hnext a b hv hg0 hg1 hg2 hg3 hg4 hg5 hr0 hr1 hr2 hr3 hr4 hr5 hr6 hr7 hr8 hr9 hr10 hr11 hr12 hr13 hr14 hr15 hr16 hr17 hr18 hr19 hr20 hr21 hr22 hr23 hr24 hr25 hw142 hw196 hw143 hw197 hw144 hw171
                            ·
                              refine jt_ite (fun c344_ => ?_) (fun c344_ => ?_)
                              ·
                                exact lw_op546 E d hd hL y3 hy0 (by omega) hnext a b hv hg0 hg1 hg2 hg3 hg4 hg5 hr0 hr1 hr2 hr3 hr4 hr5 hr6 hr7 hr8 hr9 hr10 hr11 hr12 hr13 hr14 hr15 hr16 hr17 hr18 hr19 hr20 hr21 hr22 hr23 hr24 hr25 hw142 hw196 hw143 hw197 hw144 hw171
                              ·
                                refine jt_ite (fun c345_ => ?_) (fun c345_ => ?_)
                                ·
                                  exact lw_op559 E d hd hL y3 hy0 (by omega) hnext a b hv hg0 hg1 hg2 hg3 hg4 hg5 hr0 hr1 hr2 hr3 hr4 hr5 hr6 hr7 hr8 hr9 hr10 hr11 hr12 hr13 hr14 hr15 hr16 hr17 hr18 hr19 hr20 hr21 hr22 hr23 hr24 hr25 hw142 hw196 hw143 hw197 hw144 hw171
                                ·
                                  refine jt_ite (fun c346_ => ?_) (fun c346_ => ?_)
                                  ·
                                    exact lw_op592 E d hd hL y3 hy0 (by omega) hnext a b hv hg0 hg1 hg2 hg3 hg4 hg5 hr0 hr1 hr2 hr3 hr4 hr5 hr6 hr7 hr8 hr9 hr10 hr11 hr12 hr13 hr14 hr15 hr16 hr17 hr18 hr19 hr20 hr21 hr22 hr23 hr24 hr25 hw142 hw196 hw143 hw197 hw144 hw171
                                  ·
                                    refine jt_ite (fun c347_ => ?_) (fun c347_ => ?_)
                                    ·
                                      exact lw_op615 E d hd hL y3 hy0 (by omega) hnext a b hv hg0 hg1 hg2 hg3 hg4 hg5 hr0 hr1 hr2 hr3 hr4 hr5 hr6 hr7 hr8 hr9 hr10 hr11 hr12 hr13 hr14 hr15 hr16 hr17 hr18 hr19 hr20 hr21 hr22 hr23 hr24 hr25 hw142 hw196 hw143 hw197 hw144 hw171
                                    ·
                                      refine jt_ite (fun c348_ => ?_) (fun c348_ => ?_)
                                      ·
                                        exact lw_op648 E d hd hL y3 hy0 (by omega) hnext a b hv hg0 hg1 hg2 hg3 hg4 hg5 hr0 hr1 hr2 hr3 hr4 hr5 hr6 hr7 hr8 hr9 hr10 hr11 hr12 hr13 hr14 hr15 hr16 hr17 hr18 hr19 hr20 hr21 hr22 hr23 hr24 hr25 hw142 hw196 hw143 hw197 hw144 hw171
                                      ·
                                        refine jt_ite (fun c349_ => ?_) (fun c349_ => ?_)
                                        ·
                                          exact lw_op691 E d hd hL y3 hy0 (by omega) hnext a b hv hg0 hg1 hg2 hg3 hg4 hg5 hr0 hr1 hr2 hr3 hr4 hr5 hr6 hr7 hr8 hr9 hr10 hr11 hr12 hr13 hr14 hr15 hr16 hr17 hr18 hr19 hr20 hr21 hr22 hr23 hr24 hr25 hw142 hw196 hw143 hw197 hw144 hw171
                                        ·
                                          refine jt_ite (fun c350_ => ?_) (fun c350_ => ?_)
                                          ·
                                            exact lw_op724 E d hd hL y3 hy0 (by omega) hnext a b hv hg0 hg1 hg2 hg3 hg4 hg5 hr0 hr1 hr2 hr3 hr4 hr5 hr6 hr7 hr8 hr9 hr10 hr11 hr12 hr13 hr14 hr15 hr16 hr17 hr18 hr19 hr20 hr21 hr22 hr23 hr24 hr25 hw142 hw196 hw143 hw197 hw144 hw171
                                          ·
                                            refine jt_ite (fun c351_ => ?_) (fun c351_ => ?_)
                                            ·
                                              exact lw_op747 E d hd hL y3 hy0 (by omega) hnext a b hv hg0 hg1 hg2 hg3 hg4 hg5 hr0 hr1 hr2 hr3 hr4 hr5 hr6 hr7 hr8 hr9 hr10 hr11 hr12 hr13 hr14 hr15 hr16 hr17 hr18 hr19 hr20 hr21 hr22 hr23 hr24 hr25 hw142 hw196 hw143 hw197 hw144 hw171
                                            ·
                                              refine jt_ite (fun c352_ => ?_) (fun c352_ => ?_)
                                              ·
                                                exact lw_op790 E d hd hL y3 hy0 (by omega) hnext a b hv hg0 hg1 hg2 hg3 hg4 hg5 hr0 hr1 hr2 hr3 hr4 hr5 hr6 hr7 hr8 hr9 hr10 hr11 hr12 hr13 hr14 hr15 hr16 hr17 hr18 hr19 hr20 hr21 hr22 hr23 hr24 hr25 hw142 hw196 hw143 hw197 hw144 hw171
                                              ·
                                                refine jt_ite (fun c353_ => ?_) (fun c353_ => ?_)
                                                ·
                                                  exact lw_op833 E d hd hL y3 hy0 (by omega) hnext a b hv hg0 hg1 hg2 hg3 hg4 hg5 hr0 hr1 hr2 hr3 hr4 hr5 hr6 hr7 hr8 hr9 hr10 hr11 hr12 hr13 hr14 hr15 hr16 hr17 hr18 hr19 hr20 hr21 hr22 hr23 hr24 hr25 hw142 hw196 hw143 hw197 hw144 hw171
                                                ·
                                                  refine jt_ite (fun c354_ => ?_) (fun c354_ => ?_)
                                                  ·
                                                    exact lw_op856 E d hd hL y3 hy0 (by omega) hnext a b hv hg0 hg1 hg2 hg3 hg4 hg5 hr0 hr1 hr2 hr3 hr4 hr5 hr6 hr7 hr8 hr9 hr10 hr11 hr12 hr13 hr14 hr15 hr16 hr17 hr18 hr19 hr20 hr21 hr22 hr23 hr24 hr25 hw142 hw196 hw143 hw197 hw144 hw171
                                                  ·
                                                    refine jt_ite (fun c355_ => ?_) (fun c355_ => ?_)
                                                    ·
                                                      exact lw_op869 E d hd hL y3 hy0 (by omega) hnext a b hv hg0 hg1 hg2 hg3 hg4 hg5 hr0 hr1 hr2 hr3 hr4 hr5 hr6 hr7 hr8 hr9 hr10 hr11 hr12 hr13 hr14 hr15 hr16 hr17 hr18 hr19 hr20 hr21 hr22 hr23 hr24 hr25 hw142 hw196 hw143 hw197 hw144 hw171
                                                    ·
                                                      refine jt_ite (fun c356_ => ?_) (fun c356_ => ?_)
                                                      ·
                                                        exact lw_op902 E d hd hL y3 hy0 (by omega) hnext a b hv hg0 hg1 hg2 hg3 hg4 hg5 hr0 hr1 hr2 hr3 hr4 hr5 hr6 hr7 hr8 hr9 hr10 hr11 hr12 hr13 hr14 hr15 hr16 hr17 hr18 hr19 hr20 hr21 hr22 hr23 hr24 hr25 hw142 hw196 hw143 hw197 hw144 hw171
                                                      ·
                                                        refine jt_ite (fun c357_ => ?_) (fun c357_ => ?_)
                                                        ·
                                                          exact lw_op925 E d hd hL y3 hy0 (by omega) hnext a b hv hg0 hg1 hg2 hg3 hg4 hg5 hr0 hr1 hr2 hr3 hr4 hr5 hr6 hr7 hr8 hr9 hr10 hr11 hr12 hr13 hr14 hr15 hr16 hr17 hr18 hr19 hr20 hr21 hr22 hr23 hr24 hr25 hw142 hw196 hw143 hw197 hw144 hw171
                                                        ·
                                                          refine jt_ite (fun c358_ => ?_) (fun c358_ => ?_)
                                                          ·
                                                            exact lw_op958 E d hd hL y3 hy0 (by omega) hnext a b hv hg0 hg1 hg2 hg3 hg4 hg5 hr0 hr1 hr2 hr3 hr4 hr5 hr6 hr7 hr8 hr9 hr10 hr11 hr12 hr13 hr14 hr15 hr16 hr17 hr18 hr19 hr20 hr21 hr22 hr23 hr24 hr25 hw142 hw196 hw143 hw197 hw144 hw171
                                                          ·
                                                            refine jt_ite (fun c359_ => ?_) (fun c359_ => ?_)
                                                            ·
                                                              exact lw_op991 E d hd hL y3 hy0 (by omega) hnext a b hv hg0 hg1 hg2 hg3 hg4 hg5 hr0 hr1 hr2 hr3 hr4 hr5 hr6 hr7 hr8 hr9 hr10 hr11 hr12 hr13 hr14 hr15 hr16 hr17 hr18 hr19 hr20 hr21 hr22 hr23 hr24 hr25 hw142 hw196 hw143 hw197 hw144 hw171
                                                            ·
                                                              refine jt_ite (fun c360_ => ?_) (fun c360_ => ?_)
                                                              ·
                                                                exact lw_op1014 E d hd hL y3 hy0 (by omega) hnext a b hv hg0 hg1 hg2 hg3 hg4 hg5 hr0 hr1 hr2 hr3 hr4 hr5 hr6 hr7 hr8 hr9 hr10 hr11 hr12 hr13 hr14 hr15 hr16 hr17 hr18 hr19 hr20 hr21 hr22 hr23 hr24 hr25 hw142 hw196 hw143 hw197 hw144 hw171
                                                              ·
                                                                refine jt_ite (fun c361_ => ?_) (fun c361_ => ?_)
                                                                ·
                                                                  exact lw_op1067 E d hd hL y3 hy0 (by omega) hnext a b hv hg0 hg1 hg2 hg3 hg4 hg5 hr0 hr1 hr2 hr3 hr4 hr5 hr6 hr7 hr8 hr9 hr10 hr11 hr12 hr13 hr14 hr15 hr16 hr17 hr18 hr19 hr20 hr21 hr22 hr23 hr24 hr25 hw142 hw196 hw143 hw197 hw144 hw171
                                                                ·
                                                                  refine jt_ite (fun c362_ => ?_) (fun c362_ => ?_)
                                                                  ·
                                                                    exact lw_op1110 E d hd hL y3 hy0 (by omega) hnext a b hv hg0 hg1 hg2 hg3 hg4 hg5 hr0 hr1 hr2 hr3 hr4 hr5 hr6 hr7 hr8 hr9 hr10 hr11 hr12 hr13 hr14 hr15 hr16 hr17 hr18 hr19 hr20 hr21 hr22 hr23 hr24 hr25 hw142 hw196 hw143 hw197 hw144 hw171
                                                                  ·
                                                                    refine jt_ite (fun c363_ => ?_) (fun c363_ => ?_)
                                                                    ·
                                                                      exact lw_op1143 E d hd hL y3 hy0 (by omega) hnext a b hv hg0 hg1 hg2 hg3 hg4 hg5 hr0 hr1 hr2 hr3 hr4 hr5 hr6 hr7 hr8 hr9 hr10 hr11 hr12 hr13 hr14 hr15 hr16 hr17 hr18 hr19 hr20 hr21 hr22 hr23 hr24 hr25 hw142 hw196 hw143 hw197 hw144 hw171
                                                                    ·
                                                                      refine jt_ite (fun c364_ => ?_) (fun c364_ => ?_)
                                                                      ·
                                                                        exact lw_op1166 E d hd hL y3 hy0 (by omega) hnext a b hv hg0 hg1 hg2 hg3 hg4 hg5 hr0 hr1 hr2 hr3 hr4 hr5 hr6 hr7 hr8 hr9 hr10 hr11 hr12 hr13 hr14 hr15 hr16 hr17 hr18 hr19 hr20 hr21 hr22 hr23 hr24 hr25 hw142 hw196 hw143 hw197 hw144 hw171
                                                                      ·
                                                                        exact absurd (by omega : False) id
