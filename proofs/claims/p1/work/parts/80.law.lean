theorem jt_bif {c : Bool} {X Y : Option jxR} {Q : List jxV → (Nat → Nat → Int) → (Nat → Nat → Int) → Prop} (hc : c = true) (h : jt X Q) : jt (bif c then X else Y) Q := by
  rw [hc]; exact h
theorem lw_op180 (E : jxE) (d : Nat) (hd : Nat.ble 60 (d + 1) = true) (hL : E.1 ≤ 6) (y3 : Int) (hy0 : y3 = 0) (hy1 : y3 + 6 ≤ E.1) (hnext : ∀ (a b : Nat → Nat → Int), jt (jxX E d 305 1189 [some (.inr (.inr (.inl 3000))), some (.inr (.inr (.inl 0))), some (.inr (.inr (.inl 146))), some (.inl y3)] [] (jxSH, a, b)) (fun v _ _ => v = [.inl 1])) (a b : Nat → Nat → Int) (hv : iv a) (hg0 : WFW a) (hg1 : SV a) (hg2 : OC a) (hg3 : FO a) (hg4 : FW a) (hg5 : FARR a) (hr0 : a 0 0 = 0) (hr1 : a 146 0 = 0) (hr2 : a 4 6 = 0) (hr3 : a 146 2 = 0) (hr4 : a 2 1 = 0) (hr5 : a 146 22 = 0) (hr6 : a 0 9 = 0) (hr7 : a 146 42 = 0) (hr8 : a 58 8 = 0) (hr9 : a 146 9 = 0) (hr10 : a 58 12 = 0) (hr11 : a 146 17 = 0) (hr12 : a 83 6 = 0) (hr13 : a 146 49 = 0) (hr14 : a 83 7 = 0) (hr15 : a 146 55 = 0) (hr16 : a 90 12 = 0) (hr17 : a 146 64 = 0) (hr18 : a 105 5 = 0) (hr19 : a 146 68 = 0) (hr20 : a 146 75 = 0) (hr21 : a 56 0 = 5) (hr22 : a 56 1 = 10) (hr23 : a 56 2 = 3) (hr24 : a 56 3 = 60) (hr25 : a 56 4 = 2) (hw142 : ∀ j : Nat, j < 8 → a 142 j = -1) (hw196 : ∀ j : Nat, j < 8 → a 196 j = -1) (hw143 : ∀ j : Nat, a 143 j = 0) (hw197 : ∀ j : Nat, a 197 j = 0) (hw144 : ∀ j : Nat, j < 8 → a 144 j = -1) (hw171 : ∀ j : Nat, (j = 0 → a 171 j = 5) ∧ (j = 1 → a 171 j = 10) ∧ (j = 2 → a 171 j = 3) ∧ (j = 3 → a 171 j = 60) ∧ (j = 4 → a 171 j = 2)) : jt (jxX E d 305 180 [some (.inr (.inr (.inl 3000))), some (.inr (.inr (.inl 0))), some (.inr (.inr (.inl 146))), some (.inl y3)] [] (jxSH, a, b)) (fun v _ _ => v = [.inl 1]) := by
  refine jt_eq (bq_law_180 E d y3 a b) ?_
  refine jt_bif (Nat.ble_eq_true_of_le (by omega)) ?_
  have h1_ : jxw (y3 + 1) = y3 + 1 := jxw_id (by omega) (by omega)
  refine jt_grd (by omega) ?_
  refine jt_bI (sp_X11_clock E d (jd_le hd rfl) (E.2 ((jxw (y3 + 1)).toNat)) a b hv) (fun r2_ a2_ b2_ h2_ => ?_)
  obtain ⟨hv2_, hf2_, rfl, hq2_0, hq2_1⟩ := h2_
  have h3_ := iv_get hv (k := 0) (j := 0) (l := 0) (u := 1999) rfl
  have h4_ := iv_get hv2_ (k := 0) (j := 0) (l := 0) (u := 1999) rfl
  refine jt_bif (Nat.ble_eq_true_of_le (by omega)) ?_
  refine jt_grd (by omega) ?_
  refine jt_bI (sp_X12_clock E d (jd_le hd rfl) (E.2 ((jxw (y3 + 1)).toNat)) a2_ b hv2_) (fun r5_ a5_ b5_ h5_ => ?_)
  obtain ⟨hv5_, hf5_, rfl, hq5_0, hq5_1⟩ := h5_
  have h6_ := iv_get hv2_ (k := 146) (j := 0) (l := 0) (u := 1999) rfl
  have h7_ : a2_ 146 0 = a 146 0 := hf2_ 146 0 rfl
  have h8_ := iv_get hv (k := 146) (j := 0) (l := 0) (u := 1999) rfl
  have h9_ := iv_get hv5_ (k := 146) (j := 0) (l := 0) (u := 1999) rfl
  refine jt_ite (fun c10_ => ?_) (fun c10_ => ?_)
  ·
    exact hnext a5_ b 
  ·
    exact absurd (by omega : False) id
theorem lw_op203 (E : jxE) (d : Nat) (hd : Nat.ble 60 (d + 1) = true) (hL : E.1 ≤ 6) (y3 : Int) (hy0 : y3 = 0) (hy1 : y3 + 6 ≤ E.1) (hnext : ∀ (a b : Nat → Nat → Int), jt (jxX E d 305 1189 [some (.inr (.inr (.inl 3000))), some (.inr (.inr (.inl 0))), some (.inr (.inr (.inl 146))), some (.inl y3)] [] (jxSH, a, b)) (fun v _ _ => v = [.inl 1])) (a b : Nat → Nat → Int) (hv : iv a) (hg0 : WFW a) (hg1 : SV a) (hg2 : OC a) (hg3 : FO a) (hg4 : FW a) (hg5 : FARR a) (hr0 : a 0 0 = 0) (hr1 : a 146 0 = 0) (hr2 : a 4 6 = 0) (hr3 : a 146 2 = 0) (hr4 : a 2 1 = 0) (hr5 : a 146 22 = 0) (hr6 : a 0 9 = 0) (hr7 : a 146 42 = 0) (hr8 : a 58 8 = 0) (hr9 : a 146 9 = 0) (hr10 : a 58 12 = 0) (hr11 : a 146 17 = 0) (hr12 : a 83 6 = 0) (hr13 : a 146 49 = 0) (hr14 : a 83 7 = 0) (hr15 : a 146 55 = 0) (hr16 : a 90 12 = 0) (hr17 : a 146 64 = 0) (hr18 : a 105 5 = 0) (hr19 : a 146 68 = 0) (hr20 : a 146 75 = 0) (hr21 : a 56 0 = 5) (hr22 : a 56 1 = 10) (hr23 : a 56 2 = 3) (hr24 : a 56 3 = 60) (hr25 : a 56 4 = 2) (hw142 : ∀ j : Nat, j < 8 → a 142 j = -1) (hw196 : ∀ j : Nat, j < 8 → a 196 j = -1) (hw143 : ∀ j : Nat, a 143 j = 0) (hw197 : ∀ j : Nat, a 197 j = 0) (hw144 : ∀ j : Nat, j < 8 → a 144 j = -1) (hw171 : ∀ j : Nat, (j = 0 → a 171 j = 5) ∧ (j = 1 → a 171 j = 10) ∧ (j = 2 → a 171 j = 3) ∧ (j = 3 → a 171 j = 60) ∧ (j = 4 → a 171 j = 2)) : jt (jxX E d 305 203 [some (.inr (.inr (.inl 3000))), some (.inr (.inr (.inl 0))), some (.inr (.inr (.inl 146))), some (.inl y3)] [] (jxSH, a, b)) (fun v _ _ => v = [.inl 1]) := by
  refine jt_eq (bq_law_203 E d y3 a b) ?_
  refine jt_bif (Nat.ble_eq_true_of_le (by omega)) ?_
  have h11_ : jxw (y3 + 1) = y3 + 1 := jxw_id (by omega) (by omega)
  refine jt_grd (by omega) ?_
  refine jt_bif (Nat.ble_eq_true_of_le (by omega)) ?_
  have h12_ : jxw (y3 + 2) = y3 + 2 := jxw_id (by omega) (by omega)
  refine jt_grd (by omega) ?_
  refine jt_bif (Nat.ble_eq_true_of_le (by omega)) ?_
  have h13_ : jxw (y3 + 3) = y3 + 3 := jxw_id (by omega) (by omega)
  refine jt_grd (by omega) ?_
  refine jt_bI (sp_X11_far E d (jd_le hd rfl) (E.2 ((jxw (y3 + 1)).toNat)) (E.2 ((jxw (y3 + 2)).toNat)) (E.2 ((jxw (y3 + 3)).toNat)) a b hv) (fun r14_ a14_ b14_ h14_ => ?_)
  obtain ⟨hv14_, hf14_, rfl, hq14_0⟩ := h14_
  refine jt_bif (Nat.ble_eq_true_of_le (by omega)) ?_
  refine jt_grd (by omega) ?_
  refine jt_bif (Nat.ble_eq_true_of_le (by omega)) ?_
  refine jt_grd (by omega) ?_
  refine jt_bif (Nat.ble_eq_true_of_le (by omega)) ?_
  refine jt_grd (by omega) ?_
  refine jt_bI (sp_X12_far E d (jd_le hd rfl) (E.2 ((jxw (y3 + 1)).toNat)) (E.2 ((jxw (y3 + 2)).toNat)) (E.2 ((jxw (y3 + 3)).toNat)) a14_ b hv14_) (fun r15_ a15_ b15_ h15_ => ?_)
  obtain ⟨hv15_, hf15_, rfl, hq15_0⟩ := h15_
  have hd15 := FarP_det hq14_0 hq15_0 (fun j => by rw [hf14_ 147 j rfl]; exact hg5 j)
  have hdr15 := hd15.1
  have hF15 : FARR a15_ := fun j => by rw [hf15_ 1 j rfl]; exact hd15.2 j
  refine jt_ite (fun c16_ => ?_) (fun c16_ => ?_)
  ·
    exact hnext a15_ b 
  ·
    exact absurd (by omega : False) id
theorem lw_op246 (E : jxE) (d : Nat) (hd : Nat.ble 60 (d + 1) = true) (hL : E.1 ≤ 6) (y3 : Int) (hy0 : y3 = 0) (hy1 : y3 + 6 ≤ E.1) (hnext : ∀ (a b : Nat → Nat → Int), jt (jxX E d 305 1189 [some (.inr (.inr (.inl 3000))), some (.inr (.inr (.inl 0))), some (.inr (.inr (.inl 146))), some (.inl y3)] [] (jxSH, a, b)) (fun v _ _ => v = [.inl 1])) (a b : Nat → Nat → Int) (hv : iv a) (hg0 : WFW a) (hg1 : SV a) (hg2 : OC a) (hg3 : FO a) (hg4 : FW a) (hg5 : FARR a) (hr0 : a 0 0 = 0) (hr1 : a 146 0 = 0) (hr2 : a 4 6 = 0) (hr3 : a 146 2 = 0) (hr4 : a 2 1 = 0) (hr5 : a 146 22 = 0) (hr6 : a 0 9 = 0) (hr7 : a 146 42 = 0) (hr8 : a 58 8 = 0) (hr9 : a 146 9 = 0) (hr10 : a 58 12 = 0) (hr11 : a 146 17 = 0) (hr12 : a 83 6 = 0) (hr13 : a 146 49 = 0) (hr14 : a 83 7 = 0) (hr15 : a 146 55 = 0) (hr16 : a 90 12 = 0) (hr17 : a 146 64 = 0) (hr18 : a 105 5 = 0) (hr19 : a 146 68 = 0) (hr20 : a 146 75 = 0) (hr21 : a 56 0 = 5) (hr22 : a 56 1 = 10) (hr23 : a 56 2 = 3) (hr24 : a 56 3 = 60) (hr25 : a 56 4 = 2) (hw142 : ∀ j : Nat, j < 8 → a 142 j = -1) (hw196 : ∀ j : Nat, j < 8 → a 196 j = -1) (hw143 : ∀ j : Nat, a 143 j = 0) (hw197 : ∀ j : Nat, a 197 j = 0) (hw144 : ∀ j : Nat, j < 8 → a 144 j = -1) (hw171 : ∀ j : Nat, (j = 0 → a 171 j = 5) ∧ (j = 1 → a 171 j = 10) ∧ (j = 2 → a 171 j = 3) ∧ (j = 3 → a 171 j = 60) ∧ (j = 4 → a 171 j = 2)) : jt (jxX E d 305 246 [some (.inr (.inr (.inl 3000))), some (.inr (.inr (.inl 0))), some (.inr (.inr (.inl 146))), some (.inl y3)] [] (jxSH, a, b)) (fun v _ _ => v = [.inl 1]) := by
  refine jt_eq (bq_law_246 E d y3 a b) ?_
  refine jt_bif (Nat.ble_eq_true_of_le (by omega)) ?_
  have h17_ : jxw (y3 + 1) = y3 + 1 := jxw_id (by omega) (by omega)
  refine jt_grd (by omega) ?_
  refine jt_bif (Nat.ble_eq_true_of_le (by omega)) ?_
  have h18_ : jxw (y3 + 2) = y3 + 2 := jxw_id (by omega) (by omega)
  refine jt_grd (by omega) ?_
  refine jt_bif (Nat.ble_eq_true_of_le (by omega)) ?_
  have h19_ : jxw (y3 + 3) = y3 + 3 := jxw_id (by omega) (by omega)
  refine jt_grd (by omega) ?_
  refine jt_bI (sp_X11_member E d (jd_le hd rfl) (E.2 ((jxw (y3 + 1)).toNat)) (E.2 ((jxw (y3 + 2)).toNat)) (E.2 ((jxw (y3 + 3)).toNat)) a b hv) (fun r20_ a20_ b20_ h20_ => ?_)
  obtain ⟨hv20_, hf20_, rfl, hq20_0, hq20_1, hq20_2⟩ := h20_
  have h21_ := iv_get hv (k := 4) (j := 6) (l := 0) (u := 40) rfl
  have h22_ := iv_get hv20_ (k := 4) (j := 6) (l := 0) (u := 40) rfl
  refine jt_bif (Nat.ble_eq_true_of_le (by omega)) ?_
  refine jt_grd (by omega) ?_
  refine jt_bif (Nat.ble_eq_true_of_le (by omega)) ?_
  refine jt_grd (by omega) ?_
  refine jt_bif (Nat.ble_eq_true_of_le (by omega)) ?_
  refine jt_grd (by omega) ?_
  refine jt_bI (sp_X12_member E d (jd_le hd rfl) (E.2 ((jxw (y3 + 1)).toNat)) (E.2 ((jxw (y3 + 2)).toNat)) (E.2 ((jxw (y3 + 3)).toNat)) a20_ b hv20_) (fun r23_ a23_ b23_ h23_ => ?_)
  obtain ⟨hv23_, hf23_, rfl, hq23_0, hq23_1, hq23_2⟩ := h23_
  have h24_ := iv_get hv20_ (k := 146) (j := 2) (l := 0) (u := 40) rfl
  have h25_ : a20_ 146 2 = a 146 2 := hf20_ 146 2 rfl
  have h26_ := iv_get hv (k := 146) (j := 2) (l := 0) (u := 40) rfl
  have h27_ := iv_get hv23_ (k := 146) (j := 2) (l := 0) (u := 40) rfl
  refine jt_ite (fun c28_ => ?_) (fun c28_ => ?_)
  ·
    exact hnext a23_ b 
  ·
    exact absurd (by omega : False) id
theorem lw_op289 (E : jxE) (d : Nat) (hd : Nat.ble 60 (d + 1) = true) (hL : E.1 ≤ 6) (y3 : Int) (hy0 : y3 = 0) (hy1 : y3 + 6 ≤ E.1) (hnext : ∀ (a b : Nat → Nat → Int), jt (jxX E d 305 1189 [some (.inr (.inr (.inl 3000))), some (.inr (.inr (.inl 0))), some (.inr (.inr (.inl 146))), some (.inl y3)] [] (jxSH, a, b)) (fun v _ _ => v = [.inl 1])) (a b : Nat → Nat → Int) (hv : iv a) (hg0 : WFW a) (hg1 : SV a) (hg2 : OC a) (hg3 : FO a) (hg4 : FW a) (hg5 : FARR a) (hr0 : a 0 0 = 0) (hr1 : a 146 0 = 0) (hr2 : a 4 6 = 0) (hr3 : a 146 2 = 0) (hr4 : a 2 1 = 0) (hr5 : a 146 22 = 0) (hr6 : a 0 9 = 0) (hr7 : a 146 42 = 0) (hr8 : a 58 8 = 0) (hr9 : a 146 9 = 0) (hr10 : a 58 12 = 0) (hr11 : a 146 17 = 0) (hr12 : a 83 6 = 0) (hr13 : a 146 49 = 0) (hr14 : a 83 7 = 0) (hr15 : a 146 55 = 0) (hr16 : a 90 12 = 0) (hr17 : a 146 64 = 0) (hr18 : a 105 5 = 0) (hr19 : a 146 68 = 0) (hr20 : a 146 75 = 0) (hr21 : a 56 0 = 5) (hr22 : a 56 1 = 10) (hr23 : a 56 2 = 3) (hr24 : a 56 3 = 60) (hr25 : a 56 4 = 2) (hw142 : ∀ j : Nat, j < 8 → a 142 j = -1) (hw196 : ∀ j : Nat, j < 8 → a 196 j = -1) (hw143 : ∀ j : Nat, a 143 j = 0) (hw197 : ∀ j : Nat, a 197 j = 0) (hw144 : ∀ j : Nat, j < 8 → a 144 j = -1) (hw171 : ∀ j : Nat, (j = 0 → a 171 j = 5) ∧ (j = 1 → a 171 j = 10) ∧ (j = 2 → a 171 j = 3) ∧ (j = 3 → a 171 j = 60) ∧ (j = 4 → a 171 j = 2)) : jt (jxX E d 305 289 [some (.inr (.inr (.inl 3000))), some (.inr (.inr (.inl 0))), some (.inr (.inr (.inl 146))), some (.inl y3)] [] (jxSH, a, b)) (fun v _ _ => v = [.inl 1]) := by
  refine jt_eq (bq_law_289 E d y3 a b) ?_
  refine jt_bif (Nat.ble_eq_true_of_le (by omega)) ?_
  have h29_ : jxw (y3 + 1) = y3 + 1 := jxw_id (by omega) (by omega)
  refine jt_grd (by omega) ?_
  refine jt_bI (sp_X11_leave E d (jd_le hd rfl) (E.2 ((jxw (y3 + 1)).toNat)) a b hv) (fun r30_ a30_ b30_ h30_ => ?_)
  obtain ⟨hv30_, hf30_, rfl, hq30_0, hq30_1, hq30_2⟩ := h30_
  have h31_ := iv_get hv (k := 4) (j := 6) (l := 0) (u := 40) rfl
  refine jt_bif (Nat.ble_eq_true_of_le (by omega)) ?_
  refine jt_grd (by omega) ?_
  refine jt_bI (sp_X12_leave E d (jd_le hd rfl) (E.2 ((jxw (y3 + 1)).toNat)) a30_ b hv30_ (OC_fr hg2 hf30_ rfl rfl (fun _ => rfl) (fun _ => rfl) (fun _ => rfl) (fun _ => rfl) (fun _ => rfl))) (fun r32_ a32_ b32_ h32_ => ?_)
  obtain ⟨hv32_, hf32_, rfl, hq32_0, hq32_1, hq32_2, hq32_3⟩ := h32_
  have h33_ := iv_get hv30_ (k := 146) (j := 2) (l := 0) (u := 40) rfl
  have h34_ : a30_ 146 2 = a 146 2 := hf30_ 146 2 rfl
  have h35_ := iv_get hv (k := 146) (j := 2) (l := 0) (u := 40) rfl
  refine jt_ite (fun c36_ => ?_) (fun c36_ => ?_)
  ·
    exact hnext a32_ b 
  ·
    exact absurd (by omega : False) id
theorem lw_op312 (E : jxE) (d : Nat) (hd : Nat.ble 60 (d + 1) = true) (hL : E.1 ≤ 6) (y3 : Int) (hy0 : y3 = 0) (hy1 : y3 + 6 ≤ E.1) (hnext : ∀ (a b : Nat → Nat → Int), jt (jxX E d 305 1189 [some (.inr (.inr (.inl 3000))), some (.inr (.inr (.inl 0))), some (.inr (.inr (.inl 146))), some (.inl y3)] [] (jxSH, a, b)) (fun v _ _ => v = [.inl 1])) (a b : Nat → Nat → Int) (hv : iv a) (hg0 : WFW a) (hg1 : SV a) (hg2 : OC a) (hg3 : FO a) (hg4 : FW a) (hg5 : FARR a) (hr0 : a 0 0 = 0) (hr1 : a 146 0 = 0) (hr2 : a 4 6 = 0) (hr3 : a 146 2 = 0) (hr4 : a 2 1 = 0) (hr5 : a 146 22 = 0) (hr6 : a 0 9 = 0) (hr7 : a 146 42 = 0) (hr8 : a 58 8 = 0) (hr9 : a 146 9 = 0) (hr10 : a 58 12 = 0) (hr11 : a 146 17 = 0) (hr12 : a 83 6 = 0) (hr13 : a 146 49 = 0) (hr14 : a 83 7 = 0) (hr15 : a 146 55 = 0) (hr16 : a 90 12 = 0) (hr17 : a 146 64 = 0) (hr18 : a 105 5 = 0) (hr19 : a 146 68 = 0) (hr20 : a 146 75 = 0) (hr21 : a 56 0 = 5) (hr22 : a 56 1 = 10) (hr23 : a 56 2 = 3) (hr24 : a 56 3 = 60) (hr25 : a 56 4 = 2) (hw142 : ∀ j : Nat, j < 8 → a 142 j = -1) (hw196 : ∀ j : Nat, j < 8 → a 196 j = -1) (hw143 : ∀ j : Nat, a 143 j = 0) (hw197 : ∀ j : Nat, a 197 j = 0) (hw144 : ∀ j : Nat, j < 8 → a 144 j = -1) (hw171 : ∀ j : Nat, (j = 0 → a 171 j = 5) ∧ (j = 1 → a 171 j = 10) ∧ (j = 2 → a 171 j = 3) ∧ (j = 3 → a 171 j = 60) ∧ (j = 4 → a 171 j = 2)) : jt (jxX E d 305 312 [some (.inr (.inr (.inl 3000))), some (.inr (.inr (.inl 0))), some (.inr (.inr (.inl 146))), some (.inl y3)] [] (jxSH, a, b)) (fun v _ _ => v = [.inl 1]) := by
  refine jt_eq (bq_law_312 E d y3 a b) ?_
  refine jt_bif (Nat.ble_eq_true_of_le (by omega)) ?_
  have h37_ : jxw (y3 + 1) = y3 + 1 := jxw_id (by omega) (by omega)
  refine jt_grd (by omega) ?_
  refine jt_bif (Nat.ble_eq_true_of_le (by omega)) ?_
  have h38_ : jxw (y3 + 2) = y3 + 2 := jxw_id (by omega) (by omega)
  refine jt_grd (by omega) ?_
  refine jt_bif (Nat.ble_eq_true_of_le (by omega)) ?_
  have h39_ : jxw (y3 + 3) = y3 + 3 := jxw_id (by omega) (by omega)
  refine jt_grd (by omega) ?_
  refine jt_bif (Nat.ble_eq_true_of_le (by omega)) ?_
  have h40_ : jxw (y3 + 4) = y3 + 4 := jxw_id (by omega) (by omega)
  refine jt_grd (by omega) ?_
  refine jt_bif (Nat.ble_eq_true_of_le (by omega)) ?_
  have h41_ : jxw (y3 + 5) = y3 + 5 := jxw_id (by omega) (by omega)
  refine jt_grd (by omega) ?_
  refine jt_bI (sp_X11_feed E d (jd_le hd rfl) (E.2 ((jxw (y3 + 1)).toNat)) (E.2 ((jxw (y3 + 2)).toNat)) (E.2 ((jxw (y3 + 3)).toNat)) (E.2 ((jxw (y3 + 4)).toNat)) (E.2 ((jxw (y3 + 5)).toNat)) a b hv) (fun r42_ a42_ b42_ h42_ => ?_)
  obtain ⟨hv42_, hf42_, rfl, hq42_0⟩ := h42_
  have h43_ := iv_get hv (k := 2) (j := 1) (l := 0) (u := 200) rfl
  have h44_ := iv_get hv42_ (k := 2) (j := 1) (l := 0) (u := 200) rfl
  refine jt_bif (Nat.ble_eq_true_of_le (by omega)) ?_
  refine jt_grd (by omega) ?_
  refine jt_bif (Nat.ble_eq_true_of_le (by omega)) ?_
  refine jt_grd (by omega) ?_
  refine jt_bif (Nat.ble_eq_true_of_le (by omega)) ?_
  refine jt_grd (by omega) ?_
  refine jt_bif (Nat.ble_eq_true_of_le (by omega)) ?_
  refine jt_grd (by omega) ?_
  refine jt_bif (Nat.ble_eq_true_of_le (by omega)) ?_
  refine jt_grd (by omega) ?_
  refine jt_bI (sp_X12_feed E d (jd_le hd rfl) (E.2 ((jxw (y3 + 1)).toNat)) (E.2 ((jxw (y3 + 2)).toNat)) (E.2 ((jxw (y3 + 3)).toNat)) (E.2 ((jxw (y3 + 4)).toNat)) (E.2 ((jxw (y3 + 5)).toNat)) a42_ b hv42_) (fun r45_ a45_ b45_ h45_ => ?_)
  obtain ⟨hv45_, hf45_, rfl, hq45_0⟩ := h45_
  have h46_ := iv_get hv42_ (k := 146) (j := 22) (l := 0) (u := 200) rfl
  have h47_ : a42_ 146 22 = a 146 22 := hf42_ 146 22 rfl
  have h48_ := iv_get hv (k := 146) (j := 22) (l := 0) (u := 200) rfl
  have h49_ := iv_get hv45_ (k := 146) (j := 22) (l := 0) (u := 200) rfl
  refine jt_ite (fun c50_ => ?_) (fun c50_ => ?_)
  ·
    exact hnext a45_ b 
  ·
    exact absurd (by omega : False) id
theorem lw_op375 (E : jxE) (d : Nat) (hd : Nat.ble 60 (d + 1) = true) (hL : E.1 ≤ 6) (y3 : Int) (hy0 : y3 = 0) (hy1 : y3 + 6 ≤ E.1) (hnext : ∀ (a b : Nat → Nat → Int), jt (jxX E d 305 1189 [some (.inr (.inr (.inl 3000))), some (.inr (.inr (.inl 0))), some (.inr (.inr (.inl 146))), some (.inl y3)] [] (jxSH, a, b)) (fun v _ _ => v = [.inl 1])) (a b : Nat → Nat → Int) (hv : iv a) (hg0 : WFW a) (hg1 : SV a) (hg2 : OC a) (hg3 : FO a) (hg4 : FW a) (hg5 : FARR a) (hr0 : a 0 0 = 0) (hr1 : a 146 0 = 0) (hr2 : a 4 6 = 0) (hr3 : a 146 2 = 0) (hr4 : a 2 1 = 0) (hr5 : a 146 22 = 0) (hr6 : a 0 9 = 0) (hr7 : a 146 42 = 0) (hr8 : a 58 8 = 0) (hr9 : a 146 9 = 0) (hr10 : a 58 12 = 0) (hr11 : a 146 17 = 0) (hr12 : a 83 6 = 0) (hr13 : a 146 49 = 0) (hr14 : a 83 7 = 0) (hr15 : a 146 55 = 0) (hr16 : a 90 12 = 0) (hr17 : a 146 64 = 0) (hr18 : a 105 5 = 0) (hr19 : a 146 68 = 0) (hr20 : a 146 75 = 0) (hr21 : a 56 0 = 5) (hr22 : a 56 1 = 10) (hr23 : a 56 2 = 3) (hr24 : a 56 3 = 60) (hr25 : a 56 4 = 2) (hw142 : ∀ j : Nat, j < 8 → a 142 j = -1) (hw196 : ∀ j : Nat, j < 8 → a 196 j = -1) (hw143 : ∀ j : Nat, a 143 j = 0) (hw197 : ∀ j : Nat, a 197 j = 0) (hw144 : ∀ j : Nat, j < 8 → a 144 j = -1) (hw171 : ∀ j : Nat, (j = 0 → a 171 j = 5) ∧ (j = 1 → a 171 j = 10) ∧ (j = 2 → a 171 j = 3) ∧ (j = 3 → a 171 j = 60) ∧ (j = 4 → a 171 j = 2)) : jt (jxX E d 305 375 [some (.inr (.inr (.inl 3000))), some (.inr (.inr (.inl 0))), some (.inr (.inr (.inl 146))), some (.inl y3)] [] (jxSH, a, b)) (fun v _ _ => v = [.inl 1]) := by
  refine jt_eq (bq_law_375 E d y3 a b) ?_
  refine jt_bif (Nat.ble_eq_true_of_le (by omega)) ?_
  have h51_ : jxw (y3 + 1) = y3 + 1 := jxw_id (by omega) (by omega)
  refine jt_grd (by omega) ?_
  refine jt_bI (sp_X11_end E d (jd_le hd rfl) (E.2 ((jxw (y3 + 1)).toNat)) a b hv) (fun r52_ a52_ b52_ h52_ => ?_)
  obtain ⟨hv52_, hf52_, rfl, hq52_0⟩ := h52_
  have h53_ := iv_get hv (k := 2) (j := 1) (l := 0) (u := 200) rfl
  have h54_ := iv_get hv52_ (k := 2) (j := 1) (l := 0) (u := 200) rfl
  refine jt_bif (Nat.ble_eq_true_of_le (by omega)) ?_
  refine jt_grd (by omega) ?_
  refine jt_bI (sp_X12_end E d (jd_le hd rfl) (E.2 ((jxw (y3 + 1)).toNat)) a52_ b hv52_) (fun r55_ a55_ b55_ h55_ => ?_)
  obtain ⟨hv55_, hf55_, rfl, hq55_0⟩ := h55_
  have h56_ := iv_get hv52_ (k := 146) (j := 22) (l := 0) (u := 200) rfl
  have h57_ : a52_ 146 22 = a 146 22 := hf52_ 146 22 rfl
  have h58_ := iv_get hv (k := 146) (j := 22) (l := 0) (u := 200) rfl
  have h59_ := iv_get hv55_ (k := 146) (j := 22) (l := 0) (u := 200) rfl
  refine jt_ite (fun c60_ => ?_) (fun c60_ => ?_)
  ·
    exact hnext a55_ b 
  ·
    exact absurd (by omega : False) id
theorem lw_op398 (E : jxE) (d : Nat) (hd : Nat.ble 60 (d + 1) = true) (hL : E.1 ≤ 6) (y3 : Int) (hy0 : y3 = 0) (hy1 : y3 + 6 ≤ E.1) (hnext : ∀ (a b : Nat → Nat → Int), jt (jxX E d 305 1189 [some (.inr (.inr (.inl 3000))), some (.inr (.inr (.inl 0))), some (.inr (.inr (.inl 146))), some (.inl y3)] [] (jxSH, a, b)) (fun v _ _ => v = [.inl 1])) (a b : Nat → Nat → Int) (hv : iv a) (hg0 : WFW a) (hg1 : SV a) (hg2 : OC a) (hg3 : FO a) (hg4 : FW a) (hg5 : FARR a) (hr0 : a 0 0 = 0) (hr1 : a 146 0 = 0) (hr2 : a 4 6 = 0) (hr3 : a 146 2 = 0) (hr4 : a 2 1 = 0) (hr5 : a 146 22 = 0) (hr6 : a 0 9 = 0) (hr7 : a 146 42 = 0) (hr8 : a 58 8 = 0) (hr9 : a 146 9 = 0) (hr10 : a 58 12 = 0) (hr11 : a 146 17 = 0) (hr12 : a 83 6 = 0) (hr13 : a 146 49 = 0) (hr14 : a 83 7 = 0) (hr15 : a 146 55 = 0) (hr16 : a 90 12 = 0) (hr17 : a 146 64 = 0) (hr18 : a 105 5 = 0) (hr19 : a 146 68 = 0) (hr20 : a 146 75 = 0) (hr21 : a 56 0 = 5) (hr22 : a 56 1 = 10) (hr23 : a 56 2 = 3) (hr24 : a 56 3 = 60) (hr25 : a 56 4 = 2) (hw142 : ∀ j : Nat, j < 8 → a 142 j = -1) (hw196 : ∀ j : Nat, j < 8 → a 196 j = -1) (hw143 : ∀ j : Nat, a 143 j = 0) (hw197 : ∀ j : Nat, a 197 j = 0) (hw144 : ∀ j : Nat, j < 8 → a 144 j = -1) (hw171 : ∀ j : Nat, (j = 0 → a 171 j = 5) ∧ (j = 1 → a 171 j = 10) ∧ (j = 2 → a 171 j = 3) ∧ (j = 3 → a 171 j = 60) ∧ (j = 4 → a 171 j = 2)) : jt (jxX E d 305 398 [some (.inr (.inr (.inl 3000))), some (.inr (.inr (.inl 0))), some (.inr (.inr (.inl 146))), some (.inl y3)] [] (jxSH, a, b)) (fun v _ _ => v = [.inl 1]) := by
  refine jt_eq (bq_law_398 E d y3 a b) ?_
  refine jt_bif (Nat.ble_eq_true_of_le (by omega)) ?_
  have h61_ : jxw (y3 + 1) = y3 + 1 := jxw_id (by omega) (by omega)
  refine jt_grd (by omega) ?_
  refine jt_bI (sp_X11_wish E d (jd_le hd rfl) (E.2 ((jxw (y3 + 1)).toNat)) a b hv) (fun r62_ a62_ b62_ h62_ => ?_)
  obtain ⟨hv62_, hf62_, rfl, hq62_0⟩ := h62_
  have h63_ := iv_get hv (k := 4) (j := 6) (l := 0) (u := 40) rfl
  refine jt_bif (Nat.ble_eq_true_of_le (by omega)) ?_
  refine jt_grd (by omega) ?_
  refine jt_bI (sp_X12_wish E d (jd_le hd rfl) (E.2 ((jxw (y3 + 1)).toNat)) a62_ b hv62_ (WFW_fr hg0 hf62_ (fun _ => rfl) (fun _ => rfl))) (fun r64_ a64_ b64_ h64_ => ?_)
  obtain ⟨hv64_, hf64_, rfl, hq64_0, hq64_1⟩ := h64_
  have h65_ := iv_get hv62_ (k := 146) (j := 2) (l := 0) (u := 40) rfl
  have h66_ : a62_ 146 2 = a 146 2 := hf62_ 146 2 rfl
  have h67_ := iv_get hv (k := 146) (j := 2) (l := 0) (u := 40) rfl
  refine jt_ite (fun c68_ => ?_) (fun c68_ => ?_)
  ·
    exact hnext a64_ b 
  ·
    exact absurd (by omega : False) id
theorem lw_op421 (E : jxE) (d : Nat) (hd : Nat.ble 60 (d + 1) = true) (hL : E.1 ≤ 6) (y3 : Int) (hy0 : y3 = 0) (hy1 : y3 + 6 ≤ E.1) (hnext : ∀ (a b : Nat → Nat → Int), jt (jxX E d 305 1189 [some (.inr (.inr (.inl 3000))), some (.inr (.inr (.inl 0))), some (.inr (.inr (.inl 146))), some (.inl y3)] [] (jxSH, a, b)) (fun v _ _ => v = [.inl 1])) (a b : Nat → Nat → Int) (hv : iv a) (hg0 : WFW a) (hg1 : SV a) (hg2 : OC a) (hg3 : FO a) (hg4 : FW a) (hg5 : FARR a) (hr0 : a 0 0 = 0) (hr1 : a 146 0 = 0) (hr2 : a 4 6 = 0) (hr3 : a 146 2 = 0) (hr4 : a 2 1 = 0) (hr5 : a 146 22 = 0) (hr6 : a 0 9 = 0) (hr7 : a 146 42 = 0) (hr8 : a 58 8 = 0) (hr9 : a 146 9 = 0) (hr10 : a 58 12 = 0) (hr11 : a 146 17 = 0) (hr12 : a 83 6 = 0) (hr13 : a 146 49 = 0) (hr14 : a 83 7 = 0) (hr15 : a 146 55 = 0) (hr16 : a 90 12 = 0) (hr17 : a 146 64 = 0) (hr18 : a 105 5 = 0) (hr19 : a 146 68 = 0) (hr20 : a 146 75 = 0) (hr21 : a 56 0 = 5) (hr22 : a 56 1 = 10) (hr23 : a 56 2 = 3) (hr24 : a 56 3 = 60) (hr25 : a 56 4 = 2) (hw142 : ∀ j : Nat, j < 8 → a 142 j = -1) (hw196 : ∀ j : Nat, j < 8 → a 196 j = -1) (hw143 : ∀ j : Nat, a 143 j = 0) (hw197 : ∀ j : Nat, a 197 j = 0) (hw144 : ∀ j : Nat, j < 8 → a 144 j = -1) (hw171 : ∀ j : Nat, (j = 0 → a 171 j = 5) ∧ (j = 1 → a 171 j = 10) ∧ (j = 2 → a 171 j = 3) ∧ (j = 3 → a 171 j = 60) ∧ (j = 4 → a 171 j = 2)) : jt (jxX E d 305 421 [some (.inr (.inr (.inl 3000))), some (.inr (.inr (.inl 0))), some (.inr (.inr (.inl 146))), some (.inl y3)] [] (jxSH, a, b)) (fun v _ _ => v = [.inl 1]) := by
  refine jt_eq (bq_law_421 E d y3 a b) ?_
  refine jt_bif (Nat.ble_eq_true_of_le (by omega)) ?_
  have h69_ : jxw (y3 + 1) = y3 + 1 := jxw_id (by omega) (by omega)
  refine jt_grd (by omega) ?_
  refine jt_bif (Nat.ble_eq_true_of_le (by omega)) ?_
  have h70_ : jxw (y3 + 2) = y3 + 2 := jxw_id (by omega) (by omega)
  refine jt_grd (by omega) ?_
  refine jt_bI (sp_X11_meets E d (jd_le hd rfl) (E.2 ((jxw (y3 + 1)).toNat)) (E.2 ((jxw (y3 + 2)).toNat)) a b hv) (fun r71_ a71_ b71_ h71_ => ?_)
  obtain ⟨rfl, rfl, hq71_0⟩ := h71_
  have h72_ := iv_get hv (k := 4) (j := 6) (l := 0) (u := 40) rfl
  refine jt_bif (Nat.ble_eq_true_of_le (by omega)) ?_
  refine jt_grd (by omega) ?_
  refine jt_bif (Nat.ble_eq_true_of_le (by omega)) ?_
  refine jt_grd (by omega) ?_
  refine jt_bI (sp_X12_meets E d (jd_le hd rfl) (E.2 ((jxw (y3 + 1)).toNat)) (E.2 ((jxw (y3 + 2)).toNat)) a b hv hg0) (fun r73_ a73_ b73_ h73_ => ?_)
  obtain ⟨hv73_, hf73_, rfl, hq73_0⟩ := h73_
  have h74_ := iv_get hv (k := 146) (j := 2) (l := 0) (u := 40) rfl
  refine jt_ite (fun c75_ => ?_) (fun c75_ => ?_)
  ·
    exact hnext a73_ b 
  ·
    exact absurd (by omega : False) id
theorem lw_op454 (E : jxE) (d : Nat) (hd : Nat.ble 60 (d + 1) = true) (hL : E.1 ≤ 6) (y3 : Int) (hy0 : y3 = 0) (hy1 : y3 + 6 ≤ E.1) (hnext : ∀ (a b : Nat → Nat → Int), jt (jxX E d 305 1189 [some (.inr (.inr (.inl 3000))), some (.inr (.inr (.inl 0))), some (.inr (.inr (.inl 146))), some (.inl y3)] [] (jxSH, a, b)) (fun v _ _ => v = [.inl 1])) (a b : Nat → Nat → Int) (hv : iv a) (hg0 : WFW a) (hg1 : SV a) (hg2 : OC a) (hg3 : FO a) (hg4 : FW a) (hg5 : FARR a) (hr0 : a 0 0 = 0) (hr1 : a 146 0 = 0) (hr2 : a 4 6 = 0) (hr3 : a 146 2 = 0) (hr4 : a 2 1 = 0) (hr5 : a 146 22 = 0) (hr6 : a 0 9 = 0) (hr7 : a 146 42 = 0) (hr8 : a 58 8 = 0) (hr9 : a 146 9 = 0) (hr10 : a 58 12 = 0) (hr11 : a 146 17 = 0) (hr12 : a 83 6 = 0) (hr13 : a 146 49 = 0) (hr14 : a 83 7 = 0) (hr15 : a 146 55 = 0) (hr16 : a 90 12 = 0) (hr17 : a 146 64 = 0) (hr18 : a 105 5 = 0) (hr19 : a 146 68 = 0) (hr20 : a 146 75 = 0) (hr21 : a 56 0 = 5) (hr22 : a 56 1 = 10) (hr23 : a 56 2 = 3) (hr24 : a 56 3 = 60) (hr25 : a 56 4 = 2) (hw142 : ∀ j : Nat, j < 8 → a 142 j = -1) (hw196 : ∀ j : Nat, j < 8 → a 196 j = -1) (hw143 : ∀ j : Nat, a 143 j = 0) (hw197 : ∀ j : Nat, a 197 j = 0) (hw144 : ∀ j : Nat, j < 8 → a 144 j = -1) (hw171 : ∀ j : Nat, (j = 0 → a 171 j = 5) ∧ (j = 1 → a 171 j = 10) ∧ (j = 2 → a 171 j = 3) ∧ (j = 3 → a 171 j = 60) ∧ (j = 4 → a 171 j = 2)) : jt (jxX E d 305 454 [some (.inr (.inr (.inl 3000))), some (.inr (.inr (.inl 0))), some (.inr (.inr (.inl 146))), some (.inl y3)] [] (jxSH, a, b)) (fun v _ _ => v = [.inl 1]) := by
  refine jt_eq (bq_law_454 E d y3 a b) ?_
  refine jt_bI (sp_X11_rules E d (jd_le hd rfl) a b hv) (fun r76_ a76_ b76_ h76_ => ?_)
  obtain ⟨hv76_, hf76_, rfl, hq76_0⟩ := h76_
  have h77_ := iv_get hv (k := 2) (j := 1) (l := 0) (u := 200) rfl
  refine jt_bI (sp_X12_rules E d (jd_le hd rfl) a76_ b hv76_) (fun r78_ a78_ b78_ h78_ => ?_)
  obtain ⟨hv78_, hf78_, rfl, hq78_0⟩ := h78_
  have h79_ := iv_get hv76_ (k := 146) (j := 22) (l := 0) (u := 200) rfl
  have h80_ : a76_ 146 22 = a 146 22 := hf76_ 146 22 rfl
  have h81_ := iv_get hv (k := 146) (j := 22) (l := 0) (u := 200) rfl
  refine jt_ite (fun c82_ => ?_) (fun c82_ => ?_)
  ·
    exact hnext a78_ b 
  ·
    exact absurd (by omega : False) id
theorem lw_op467 (E : jxE) (d : Nat) (hd : Nat.ble 60 (d + 1) = true) (hL : E.1 ≤ 6) (y3 : Int) (hy0 : y3 = 0) (hy1 : y3 + 6 ≤ E.1) (hnext : ∀ (a b : Nat → Nat → Int), jt (jxX E d 305 1189 [some (.inr (.inr (.inl 3000))), some (.inr (.inr (.inl 0))), some (.inr (.inr (.inl 146))), some (.inl y3)] [] (jxSH, a, b)) (fun v _ _ => v = [.inl 1])) (a b : Nat → Nat → Int) (hv : iv a) (hg0 : WFW a) (hg1 : SV a) (hg2 : OC a) (hg3 : FO a) (hg4 : FW a) (hg5 : FARR a) (hr0 : a 0 0 = 0) (hr1 : a 146 0 = 0) (hr2 : a 4 6 = 0) (hr3 : a 146 2 = 0) (hr4 : a 2 1 = 0) (hr5 : a 146 22 = 0) (hr6 : a 0 9 = 0) (hr7 : a 146 42 = 0) (hr8 : a 58 8 = 0) (hr9 : a 146 9 = 0) (hr10 : a 58 12 = 0) (hr11 : a 146 17 = 0) (hr12 : a 83 6 = 0) (hr13 : a 146 49 = 0) (hr14 : a 83 7 = 0) (hr15 : a 146 55 = 0) (hr16 : a 90 12 = 0) (hr17 : a 146 64 = 0) (hr18 : a 105 5 = 0) (hr19 : a 146 68 = 0) (hr20 : a 146 75 = 0) (hr21 : a 56 0 = 5) (hr22 : a 56 1 = 10) (hr23 : a 56 2 = 3) (hr24 : a 56 3 = 60) (hr25 : a 56 4 = 2) (hw142 : ∀ j : Nat, j < 8 → a 142 j = -1) (hw196 : ∀ j : Nat, j < 8 → a 196 j = -1) (hw143 : ∀ j : Nat, a 143 j = 0) (hw197 : ∀ j : Nat, a 197 j = 0) (hw144 : ∀ j : Nat, j < 8 → a 144 j = -1) (hw171 : ∀ j : Nat, (j = 0 → a 171 j = 5) ∧ (j = 1 → a 171 j = 10) ∧ (j = 2 → a 171 j = 3) ∧ (j = 3 → a 171 j = 60) ∧ (j = 4 → a 171 j = 2)) : jt (jxX E d 305 467 [some (.inr (.inr (.inl 3000))), some (.inr (.inr (.inl 0))), some (.inr (.inr (.inl 146))), some (.inl y3)] [] (jxSH, a, b)) (fun v _ _ => v = [.inl 1]) := by
  refine jt_eq (bq_law_467 E d y3 a b) ?_
  refine jt_bif (Nat.ble_eq_true_of_le (by omega)) ?_
  have h83_ : jxw (y3 + 1) = y3 + 1 := jxw_id (by omega) (by omega)
  refine jt_grd (by omega) ?_
  refine jt_bI (sp_X11_ask E d (jd_le hd rfl) (E.2 ((jxw (y3 + 1)).toNat)) a b hv) (fun r84_ a84_ b84_ h84_ => ?_)
  obtain ⟨hv84_, hf84_, rfl, hq84_0⟩ := h84_
  have h85_ := iv_get hv (k := 4) (j := 6) (l := 0) (u := 40) rfl
  refine jt_bif (Nat.ble_eq_true_of_le (by omega)) ?_
  refine jt_grd (by omega) ?_
  refine jt_bI (sp_X12_ask E d (jd_le hd rfl) (E.2 ((jxw (y3 + 1)).toNat)) a84_ b hv84_ (WFW_fr hg0 hf84_ (fun _ => rfl) (fun _ => rfl)) (OC_fr hg2 hf84_ rfl rfl (fun _ => rfl) (fun _ => rfl) (fun _ => rfl) (fun _ => rfl) (fun _ => rfl))) (fun r86_ a86_ b86_ h86_ => ?_)
  obtain ⟨hv86_, hf86_, rfl, hq86_0, hq86_1⟩ := h86_
  have h87_ := iv_get hv84_ (k := 146) (j := 2) (l := 0) (u := 40) rfl
  have h88_ : a84_ 146 2 = a 146 2 := hf84_ 146 2 rfl
  have h89_ := iv_get hv (k := 146) (j := 2) (l := 0) (u := 40) rfl
  refine jt_ite (fun c90_ => ?_) (fun c90_ => ?_)
  ·
    exact hnext a86_ b 
  ·
    exact absurd (by omega : False) id
theorem lw_op490 (E : jxE) (d : Nat) (hd : Nat.ble 60 (d + 1) = true) (hL : E.1 ≤ 6) (y3 : Int) (hy0 : y3 = 0) (hy1 : y3 + 6 ≤ E.1) (hnext : ∀ (a b : Nat → Nat → Int), jt (jxX E d 305 1189 [some (.inr (.inr (.inl 3000))), some (.inr (.inr (.inl 0))), some (.inr (.inr (.inl 146))), some (.inl y3)] [] (jxSH, a, b)) (fun v _ _ => v = [.inl 1])) (a b : Nat → Nat → Int) (hv : iv a) (hg0 : WFW a) (hg1 : SV a) (hg2 : OC a) (hg3 : FO a) (hg4 : FW a) (hg5 : FARR a) (hr0 : a 0 0 = 0) (hr1 : a 146 0 = 0) (hr2 : a 4 6 = 0) (hr3 : a 146 2 = 0) (hr4 : a 2 1 = 0) (hr5 : a 146 22 = 0) (hr6 : a 0 9 = 0) (hr7 : a 146 42 = 0) (hr8 : a 58 8 = 0) (hr9 : a 146 9 = 0) (hr10 : a 58 12 = 0) (hr11 : a 146 17 = 0) (hr12 : a 83 6 = 0) (hr13 : a 146 49 = 0) (hr14 : a 83 7 = 0) (hr15 : a 146 55 = 0) (hr16 : a 90 12 = 0) (hr17 : a 146 64 = 0) (hr18 : a 105 5 = 0) (hr19 : a 146 68 = 0) (hr20 : a 146 75 = 0) (hr21 : a 56 0 = 5) (hr22 : a 56 1 = 10) (hr23 : a 56 2 = 3) (hr24 : a 56 3 = 60) (hr25 : a 56 4 = 2) (hw142 : ∀ j : Nat, j < 8 → a 142 j = -1) (hw196 : ∀ j : Nat, j < 8 → a 196 j = -1) (hw143 : ∀ j : Nat, a 143 j = 0) (hw197 : ∀ j : Nat, a 197 j = 0) (hw144 : ∀ j : Nat, j < 8 → a 144 j = -1) (hw171 : ∀ j : Nat, (j = 0 → a 171 j = 5) ∧ (j = 1 → a 171 j = 10) ∧ (j = 2 → a 171 j = 3) ∧ (j = 3 → a 171 j = 60) ∧ (j = 4 → a 171 j = 2)) : jt (jxX E d 305 490 [some (.inr (.inr (.inl 3000))), some (.inr (.inr (.inl 0))), some (.inr (.inr (.inl 146))), some (.inl y3)] [] (jxSH, a, b)) (fun v _ _ => v = [.inl 1]) := by
  refine jt_eq (bq_law_490 E d y3 a b) ?_
  refine jt_bif (Nat.ble_eq_true_of_le (by omega)) ?_
  have h91_ : jxw (y3 + 1) = y3 + 1 := jxw_id (by omega) (by omega)
  refine jt_grd (by omega) ?_
  refine jt_bif (Nat.ble_eq_true_of_le (by omega)) ?_
  have h92_ : jxw (y3 + 2) = y3 + 2 := jxw_id (by omega) (by omega)
  refine jt_grd (by omega) ?_
  refine jt_bI (sp_X11_may E d (jd_le hd rfl) (E.2 ((jxw (y3 + 1)).toNat)) (E.2 ((jxw (y3 + 2)).toNat)) a b hv) (fun r93_ a93_ b93_ h93_ => ?_)
  obtain ⟨hv93_, hf93_, rfl, hq93_0⟩ := h93_
  have h94_ := iv_get hv (k := 4) (j := 6) (l := 0) (u := 40) rfl
  refine jt_bif (Nat.ble_eq_true_of_le (by omega)) ?_
  refine jt_grd (by omega) ?_
  refine jt_bif (Nat.ble_eq_true_of_le (by omega)) ?_
  refine jt_grd (by omega) ?_
  refine jt_bI (sp_X12_may E d (jd_le hd rfl) (E.2 ((jxw (y3 + 1)).toNat)) (E.2 ((jxw (y3 + 2)).toNat)) a93_ b hv93_ (WFW_fr hg0 hf93_ (fun _ => rfl) (fun _ => rfl))) (fun r95_ a95_ b95_ h95_ => ?_)
  obtain ⟨hv95_, hf95_, rfl, hq95_0⟩ := h95_
  have h96_ := iv_get hv93_ (k := 146) (j := 2) (l := 0) (u := 40) rfl
  have h97_ : a93_ 146 2 = a 146 2 := hf93_ 146 2 rfl
  have h98_ := iv_get hv (k := 146) (j := 2) (l := 0) (u := 40) rfl
  refine jt_ite (fun c99_ => ?_) (fun c99_ => ?_)
  ·
    exact hnext a95_ b 
  ·
    exact absurd (by omega : False) id
theorem lw_op523 (E : jxE) (d : Nat) (hd : Nat.ble 60 (d + 1) = true) (hL : E.1 ≤ 6) (y3 : Int) (hy0 : y3 = 0) (hy1 : y3 + 6 ≤ E.1) (hnext : ∀ (a b : Nat → Nat → Int), jt (jxX E d 305 1189 [some (.inr (.inr (.inl 3000))), some (.inr (.inr (.inl 0))), some (.inr (.inr (.inl 146))), some (.inl y3)] [] (jxSH, a, b)) (fun v _ _ => v = [.inl 1])) (a b : Nat → Nat → Int) (hv : iv a) (hg0 : WFW a) (hg1 : SV a) (hg2 : OC a) (hg3 : FO a) (hg4 : FW a) (hg5 : FARR a) (hr0 : a 0 0 = 0) (hr1 : a 146 0 = 0) (hr2 : a 4 6 = 0) (hr3 : a 146 2 = 0) (hr4 : a 2 1 = 0) (hr5 : a 146 22 = 0) (hr6 : a 0 9 = 0) (hr7 : a 146 42 = 0) (hr8 : a 58 8 = 0) (hr9 : a 146 9 = 0) (hr10 : a 58 12 = 0) (hr11 : a 146 17 = 0) (hr12 : a 83 6 = 0) (hr13 : a 146 49 = 0) (hr14 : a 83 7 = 0) (hr15 : a 146 55 = 0) (hr16 : a 90 12 = 0) (hr17 : a 146 64 = 0) (hr18 : a 105 5 = 0) (hr19 : a 146 68 = 0) (hr20 : a 146 75 = 0) (hr21 : a 56 0 = 5) (hr22 : a 56 1 = 10) (hr23 : a 56 2 = 3) (hr24 : a 56 3 = 60) (hr25 : a 56 4 = 2) (hw142 : ∀ j : Nat, j < 8 → a 142 j = -1) (hw196 : ∀ j : Nat, j < 8 → a 196 j = -1) (hw143 : ∀ j : Nat, a 143 j = 0) (hw197 : ∀ j : Nat, a 197 j = 0) (hw144 : ∀ j : Nat, j < 8 → a 144 j = -1) (hw171 : ∀ j : Nat, (j = 0 → a 171 j = 5) ∧ (j = 1 → a 171 j = 10) ∧ (j = 2 → a 171 j = 3) ∧ (j = 3 → a 171 j = 60) ∧ (j = 4 → a 171 j = 2)) : jt (jxX E d 305 523 [some (.inr (.inr (.inl 3000))), some (.inr (.inr (.inl 0))), some (.inr (.inr (.inl 146))), some (.inl y3)] [] (jxSH, a, b)) (fun v _ _ => v = [.inl 1]) := by
  refine jt_eq (bq_law_523 E d y3 a b) ?_
  refine jt_bif (Nat.ble_eq_true_of_le (by omega)) ?_
  have h100_ : jxw (y3 + 1) = y3 + 1 := jxw_id (by omega) (by omega)
  refine jt_grd (by omega) ?_
  refine jt_bI (sp_X11_list E d (jd_le hd rfl) (E.2 ((jxw (y3 + 1)).toNat)) a b hv) (fun r101_ a101_ b101_ h101_ => ?_)
  obtain ⟨hv101_, hf101_, rfl, hq101_0⟩ := h101_
  have h102_ := iv_get hv (k := 4) (j := 6) (l := 0) (u := 40) rfl
  refine jt_bif (Nat.ble_eq_true_of_le (by omega)) ?_
  refine jt_grd (by omega) ?_
  refine jt_bI (sp_X12_list E d (jd_le hd rfl) (E.2 ((jxw (y3 + 1)).toNat)) a101_ b hv101_) (fun r103_ a103_ b103_ h103_ => ?_)
  obtain ⟨hv103_, hf103_, rfl, hq103_0⟩ := h103_
  have h104_ := iv_get hv101_ (k := 146) (j := 2) (l := 0) (u := 40) rfl
  have h105_ : a101_ 146 2 = a 146 2 := hf101_ 146 2 rfl
  have h106_ := iv_get hv (k := 146) (j := 2) (l := 0) (u := 40) rfl
  refine jt_ite (fun c107_ => ?_) (fun c107_ => ?_)
  ·
    exact hnext a103_ b 
  ·
    exact absurd (by omega : False) id
theorem lw_op546 (E : jxE) (d : Nat) (hd : Nat.ble 60 (d + 1) = true) (hL : E.1 ≤ 6) (y3 : Int) (hy0 : y3 = 0) (hy1 : y3 + 6 ≤ E.1) (hnext : ∀ (a b : Nat → Nat → Int), jt (jxX E d 305 1189 [some (.inr (.inr (.inl 3000))), some (.inr (.inr (.inl 0))), some (.inr (.inr (.inl 146))), some (.inl y3)] [] (jxSH, a, b)) (fun v _ _ => v = [.inl 1])) (a b : Nat → Nat → Int) (hv : iv a) (hg0 : WFW a) (hg1 : SV a) (hg2 : OC a) (hg3 : FO a) (hg4 : FW a) (hg5 : FARR a) (hr0 : a 0 0 = 0) (hr1 : a 146 0 = 0) (hr2 : a 4 6 = 0) (hr3 : a 146 2 = 0) (hr4 : a 2 1 = 0) (hr5 : a 146 22 = 0) (hr6 : a 0 9 = 0) (hr7 : a 146 42 = 0) (hr8 : a 58 8 = 0) (hr9 : a 146 9 = 0) (hr10 : a 58 12 = 0) (hr11 : a 146 17 = 0) (hr12 : a 83 6 = 0) (hr13 : a 146 49 = 0) (hr14 : a 83 7 = 0) (hr15 : a 146 55 = 0) (hr16 : a 90 12 = 0) (hr17 : a 146 64 = 0) (hr18 : a 105 5 = 0) (hr19 : a 146 68 = 0) (hr20 : a 146 75 = 0) (hr21 : a 56 0 = 5) (hr22 : a 56 1 = 10) (hr23 : a 56 2 = 3) (hr24 : a 56 3 = 60) (hr25 : a 56 4 = 2) (hw142 : ∀ j : Nat, j < 8 → a 142 j = -1) (hw196 : ∀ j : Nat, j < 8 → a 196 j = -1) (hw143 : ∀ j : Nat, a 143 j = 0) (hw197 : ∀ j : Nat, a 197 j = 0) (hw144 : ∀ j : Nat, j < 8 → a 144 j = -1) (hw171 : ∀ j : Nat, (j = 0 → a 171 j = 5) ∧ (j = 1 → a 171 j = 10) ∧ (j = 2 → a 171 j = 3) ∧ (j = 3 → a 171 j = 60) ∧ (j = 4 → a 171 j = 2)) : jt (jxX E d 305 546 [some (.inr (.inr (.inl 3000))), some (.inr (.inr (.inl 0))), some (.inr (.inr (.inl 146))), some (.inl y3)] [] (jxSH, a, b)) (fun v _ _ => v = [.inl 1]) := by
  refine jt_eq (bq_law_546 E d y3 a b) ?_
  refine jt_bI (sp_X11_give E d (jd_le hd rfl) a b hv) (fun r108_ a108_ b108_ h108_ => ?_)
  obtain ⟨hv108_, hf108_, hq108_0⟩ := h108_
  have h109_ := iv_get hv (k := 0) (j := 9) (l := 0) (u := 8) rfl
  refine jt_bI (sp_X12_give E d (jd_le hd rfl) a108_ b108_ hv108_ (WFW_fr hg0 hf108_ (fun _ => rfl) (fun _ => rfl)) (OC_fr hg2 hf108_ rfl rfl (fun _ => rfl) (fun _ => rfl) (fun _ => rfl) (fun _ => rfl) (fun _ => rfl))) (fun r110_ a110_ b110_ h110_ => ?_)
  obtain ⟨hv110_, hf110_, hq110_0, hq110_1⟩ := h110_
  have h111_ := iv_get hv108_ (k := 146) (j := 42) (l := 0) (u := 8) rfl
  have h112_ : a108_ 146 42 = a 146 42 := hf108_ 146 42 rfl
  have h113_ := iv_get hv (k := 146) (j := 42) (l := 0) (u := 8) rfl
  refine jt_ite (fun c114_ => ?_) (fun c114_ => ?_)
  ·
    exact hnext a110_ b110_ 
  ·
    exact absurd (by omega : False) id
theorem lw_op559 (E : jxE) (d : Nat) (hd : Nat.ble 60 (d + 1) = true) (hL : E.1 ≤ 6) (y3 : Int) (hy0 : y3 = 0) (hy1 : y3 + 6 ≤ E.1) (hnext : ∀ (a b : Nat → Nat → Int), jt (jxX E d 305 1189 [some (.inr (.inr (.inl 3000))), some (.inr (.inr (.inl 0))), some (.inr (.inr (.inl 146))), some (.inl y3)] [] (jxSH, a, b)) (fun v _ _ => v = [.inl 1])) (a b : Nat → Nat → Int) (hv : iv a) (hg0 : WFW a) (hg1 : SV a) (hg2 : OC a) (hg3 : FO a) (hg4 : FW a) (hg5 : FARR a) (hr0 : a 0 0 = 0) (hr1 : a 146 0 = 0) (hr2 : a 4 6 = 0) (hr3 : a 146 2 = 0) (hr4 : a 2 1 = 0) (hr5 : a 146 22 = 0) (hr6 : a 0 9 = 0) (hr7 : a 146 42 = 0) (hr8 : a 58 8 = 0) (hr9 : a 146 9 = 0) (hr10 : a 58 12 = 0) (hr11 : a 146 17 = 0) (hr12 : a 83 6 = 0) (hr13 : a 146 49 = 0) (hr14 : a 83 7 = 0) (hr15 : a 146 55 = 0) (hr16 : a 90 12 = 0) (hr17 : a 146 64 = 0) (hr18 : a 105 5 = 0) (hr19 : a 146 68 = 0) (hr20 : a 146 75 = 0) (hr21 : a 56 0 = 5) (hr22 : a 56 1 = 10) (hr23 : a 56 2 = 3) (hr24 : a 56 3 = 60) (hr25 : a 56 4 = 2) (hw142 : ∀ j : Nat, j < 8 → a 142 j = -1) (hw196 : ∀ j : Nat, j < 8 → a 196 j = -1) (hw143 : ∀ j : Nat, a 143 j = 0) (hw197 : ∀ j : Nat, a 197 j = 0) (hw144 : ∀ j : Nat, j < 8 → a 144 j = -1) (hw171 : ∀ j : Nat, (j = 0 → a 171 j = 5) ∧ (j = 1 → a 171 j = 10) ∧ (j = 2 → a 171 j = 3) ∧ (j = 3 → a 171 j = 60) ∧ (j = 4 → a 171 j = 2)) : jt (jxX E d 305 559 [some (.inr (.inr (.inl 3000))), some (.inr (.inr (.inl 0))), some (.inr (.inr (.inl 146))), some (.inl y3)] [] (jxSH, a, b)) (fun v _ _ => v = [.inl 1]) := by
  refine jt_eq (bq_law_559 E d y3 a b) ?_
  refine jt_bif (Nat.ble_eq_true_of_le (by omega)) ?_
  have h115_ : jxw (y3 + 1) = y3 + 1 := jxw_id (by omega) (by omega)
  refine jt_grd (by omega) ?_
  refine jt_bif (Nat.ble_eq_true_of_le (by omega)) ?_
  have h116_ : jxw (y3 + 2) = y3 + 2 := jxw_id (by omega) (by omega)
  refine jt_grd (by omega) ?_
  refine jt_bI (sp_X11_arrive E d (jd_le hd rfl) (E.2 ((jxw (y3 + 1)).toNat)) (E.2 ((jxw (y3 + 2)).toNat)) a b hv) (fun r117_ a117_ b117_ h117_ => ?_)
  obtain ⟨hv117_, hf117_, rfl, hq117_0, hq117_1⟩ := h117_
  have h118_ := iv_get hv (k := 58) (j := 8) (l := 0) (u := 300) rfl
  refine jt_bif (Nat.ble_eq_true_of_le (by omega)) ?_
  refine jt_grd (by omega) ?_
  refine jt_bif (Nat.ble_eq_true_of_le (by omega)) ?_
  refine jt_grd (by omega) ?_
  refine jt_bI (sp_X12_arrive E d (jd_le hd rfl) (E.2 ((jxw (y3 + 1)).toNat)) (E.2 ((jxw (y3 + 2)).toNat)) a117_ b hv117_) (fun r119_ a119_ b119_ h119_ => ?_)
  obtain ⟨hv119_, hf119_, rfl, hq119_0, hq119_1⟩ := h119_
  have h120_ := iv_get hv117_ (k := 146) (j := 9) (l := 0) (u := 300) rfl
  have h121_ : a117_ 146 9 = a 146 9 := hf117_ 146 9 rfl
  have h122_ := iv_get hv (k := 146) (j := 9) (l := 0) (u := 300) rfl
  refine jt_ite (fun c123_ => ?_) (fun c123_ => ?_)
  ·
    exact hnext a119_ b 
  ·
    exact absurd (by omega : False) id
theorem lw_op592 (E : jxE) (d : Nat) (hd : Nat.ble 60 (d + 1) = true) (hL : E.1 ≤ 6) (y3 : Int) (hy0 : y3 = 0) (hy1 : y3 + 6 ≤ E.1) (hnext : ∀ (a b : Nat → Nat → Int), jt (jxX E d 305 1189 [some (.inr (.inr (.inl 3000))), some (.inr (.inr (.inl 0))), some (.inr (.inr (.inl 146))), some (.inl y3)] [] (jxSH, a, b)) (fun v _ _ => v = [.inl 1])) (a b : Nat → Nat → Int) (hv : iv a) (hg0 : WFW a) (hg1 : SV a) (hg2 : OC a) (hg3 : FO a) (hg4 : FW a) (hg5 : FARR a) (hr0 : a 0 0 = 0) (hr1 : a 146 0 = 0) (hr2 : a 4 6 = 0) (hr3 : a 146 2 = 0) (hr4 : a 2 1 = 0) (hr5 : a 146 22 = 0) (hr6 : a 0 9 = 0) (hr7 : a 146 42 = 0) (hr8 : a 58 8 = 0) (hr9 : a 146 9 = 0) (hr10 : a 58 12 = 0) (hr11 : a 146 17 = 0) (hr12 : a 83 6 = 0) (hr13 : a 146 49 = 0) (hr14 : a 83 7 = 0) (hr15 : a 146 55 = 0) (hr16 : a 90 12 = 0) (hr17 : a 146 64 = 0) (hr18 : a 105 5 = 0) (hr19 : a 146 68 = 0) (hr20 : a 146 75 = 0) (hr21 : a 56 0 = 5) (hr22 : a 56 1 = 10) (hr23 : a 56 2 = 3) (hr24 : a 56 3 = 60) (hr25 : a 56 4 = 2) (hw142 : ∀ j : Nat, j < 8 → a 142 j = -1) (hw196 : ∀ j : Nat, j < 8 → a 196 j = -1) (hw143 : ∀ j : Nat, a 143 j = 0) (hw197 : ∀ j : Nat, a 197 j = 0) (hw144 : ∀ j : Nat, j < 8 → a 144 j = -1) (hw171 : ∀ j : Nat, (j = 0 → a 171 j = 5) ∧ (j = 1 → a 171 j = 10) ∧ (j = 2 → a 171 j = 3) ∧ (j = 3 → a 171 j = 60) ∧ (j = 4 → a 171 j = 2)) : jt (jxX E d 305 592 [some (.inr (.inr (.inl 3000))), some (.inr (.inr (.inl 0))), some (.inr (.inr (.inl 146))), some (.inl y3)] [] (jxSH, a, b)) (fun v _ _ => v = [.inl 1]) := by
  refine jt_eq (bq_law_592 E d y3 a b) ?_
  refine jt_bif (Nat.ble_eq_true_of_le (by omega)) ?_
  have h124_ : jxw (y3 + 1) = y3 + 1 := jxw_id (by omega) (by omega)
  refine jt_grd (by omega) ?_
  refine jt_bI (sp_X11_back E d (jd_le hd rfl) (E.2 ((jxw (y3 + 1)).toNat)) a b hv) (fun r125_ a125_ b125_ h125_ => ?_)
  obtain ⟨hv125_, hf125_, rfl, hq125_0, hq125_1⟩ := h125_
  have h126_ := iv_get hv (k := 58) (j := 8) (l := 0) (u := 300) rfl
  refine jt_bif (Nat.ble_eq_true_of_le (by omega)) ?_
  refine jt_grd (by omega) ?_
  refine jt_bI (sp_X12_back E d (jd_le hd rfl) (E.2 ((jxw (y3 + 1)).toNat)) a125_ b hv125_) (fun r127_ a127_ b127_ h127_ => ?_)
  obtain ⟨hv127_, hf127_, rfl, hq127_0, hq127_1⟩ := h127_
  have h128_ := iv_get hv125_ (k := 146) (j := 9) (l := 0) (u := 300) rfl
  have h129_ : a125_ 146 9 = a 146 9 := hf125_ 146 9 rfl
  have h130_ := iv_get hv (k := 146) (j := 9) (l := 0) (u := 300) rfl
  refine jt_ite (fun c131_ => ?_) (fun c131_ => ?_)
  ·
    exact hnext a127_ b 
  ·
    exact absurd (by omega : False) id
theorem lw_op615 (E : jxE) (d : Nat) (hd : Nat.ble 60 (d + 1) = true) (hL : E.1 ≤ 6) (y3 : Int) (hy0 : y3 = 0) (hy1 : y3 + 6 ≤ E.1) (hnext : ∀ (a b : Nat → Nat → Int), jt (jxX E d 305 1189 [some (.inr (.inr (.inl 3000))), some (.inr (.inr (.inl 0))), some (.inr (.inr (.inl 146))), some (.inl y3)] [] (jxSH, a, b)) (fun v _ _ => v = [.inl 1])) (a b : Nat → Nat → Int) (hv : iv a) (hg0 : WFW a) (hg1 : SV a) (hg2 : OC a) (hg3 : FO a) (hg4 : FW a) (hg5 : FARR a) (hr0 : a 0 0 = 0) (hr1 : a 146 0 = 0) (hr2 : a 4 6 = 0) (hr3 : a 146 2 = 0) (hr4 : a 2 1 = 0) (hr5 : a 146 22 = 0) (hr6 : a 0 9 = 0) (hr7 : a 146 42 = 0) (hr8 : a 58 8 = 0) (hr9 : a 146 9 = 0) (hr10 : a 58 12 = 0) (hr11 : a 146 17 = 0) (hr12 : a 83 6 = 0) (hr13 : a 146 49 = 0) (hr14 : a 83 7 = 0) (hr15 : a 146 55 = 0) (hr16 : a 90 12 = 0) (hr17 : a 146 64 = 0) (hr18 : a 105 5 = 0) (hr19 : a 146 68 = 0) (hr20 : a 146 75 = 0) (hr21 : a 56 0 = 5) (hr22 : a 56 1 = 10) (hr23 : a 56 2 = 3) (hr24 : a 56 3 = 60) (hr25 : a 56 4 = 2) (hw142 : ∀ j : Nat, j < 8 → a 142 j = -1) (hw196 : ∀ j : Nat, j < 8 → a 196 j = -1) (hw143 : ∀ j : Nat, a 143 j = 0) (hw197 : ∀ j : Nat, a 197 j = 0) (hw144 : ∀ j : Nat, j < 8 → a 144 j = -1) (hw171 : ∀ j : Nat, (j = 0 → a 171 j = 5) ∧ (j = 1 → a 171 j = 10) ∧ (j = 2 → a 171 j = 3) ∧ (j = 3 → a 171 j = 60) ∧ (j = 4 → a 171 j = 2)) : jt (jxX E d 305 615 [some (.inr (.inr (.inl 3000))), some (.inr (.inr (.inl 0))), some (.inr (.inr (.inl 146))), some (.inl y3)] [] (jxSH, a, b)) (fun v _ _ => v = [.inl 1]) := by
  refine jt_eq (bq_law_615 E d y3 a b) ?_
  refine jt_bif (Nat.ble_eq_true_of_le (by omega)) ?_
  have h132_ : jxw (y3 + 1) = y3 + 1 := jxw_id (by omega) (by omega)
  refine jt_grd (by omega) ?_
  refine jt_bif (Nat.ble_eq_true_of_le (by omega)) ?_
  have h133_ : jxw (y3 + 2) = y3 + 2 := jxw_id (by omega) (by omega)
  refine jt_grd (by omega) ?_
  refine jt_eI (eq_X11_card E d (jd_le hd rfl) (E.2 ((jxw (y3 + 1)).toNat)) (E.2 ((jxw (y3 + 2)).toNat)) a b) ?_
  refine jt_bif (Nat.ble_eq_true_of_le (by omega)) ?_
  refine jt_grd (by omega) ?_
  refine jt_bif (Nat.ble_eq_true_of_le (by omega)) ?_
  refine jt_grd (by omega) ?_
  refine jt_bI (sp_X12_card E d (jd_le hd rfl) (E.2 ((jxw (y3 + 1)).toNat)) (E.2 ((jxw (y3 + 2)).toNat)) a b hv) (fun r134_ a134_ b134_ h134_ => ?_)
  obtain ⟨rfl, rfl, hq134_0⟩ := h134_
  have h135_ := iv_get hv (k := 146) (j := 9) (l := 0) (u := 300) rfl
  have h136_ := f_X11_card_eq a b (E.2 ((jxw (y3 + 1)).toNat)) (E.2 ((jxw (y3 + 2)).toNat))
  have h137_ := f_X0_fromOf_eq a b (E.2 ((jxw (y3 + 1)).toNat))
  have h138_ := iv_get hv (k := 58) (j := 8) (l := 0) (u := 300) rfl
  have h139_ := f_X11_entry_r59_eq a b (a 58 8) (E.2 ((jxw (y3 + 1)).toNat))
  have h140_ := f_X0_toOf_eq a b (E.2 ((jxw (y3 + 1)).toNat))
  have h141_ := f_X11_entry_r60_eq a b (a 58 8) (E.2 ((jxw (y3 + 1)).toNat))
  have h142_ := f_X0_sentOnOf_eq a b (E.2 ((jxw (y3 + 1)).toNat))
  have h143_ := f_X11_entry_r61_eq a b (a 58 8) (E.2 ((jxw (y3 + 1)).toNat))
  have h144_ := f_X0_boundOf_eq a b (E.2 ((jxw (y3 + 1)).toNat))
  have h145_ := f_X11_entry_r62_eq a b (a 58 8) (E.2 ((jxw (y3 + 1)).toNat))
  have h146_ := f_X0_arrivedOnOf_eq a b (E.2 ((jxw (y3 + 1)).toNat))
  have h147_ := iv_get hv (k := 58) (j := 12) (l := 0) (u := 600) rfl
  have h148_ := f_X11_entry_r65_eq a b (a 58 8) (E.2 ((jxw (y3 + 1)).toNat))
  have h149_ := f_X11_entry_r67_eq a b (a 58 12) (f_X11_entry_r65 a b (a 58 8) (E.2 ((jxw (y3 + 1)).toNat)))
  have h150_ := f_X0_ringOf_eq a b (E.2 ((jxw (y3 + 1)).toNat))
  have h151_ := f_X11_entry_r63_eq a b (a 58 8) (E.2 ((jxw (y3 + 1)).toNat))
  have h152_ := f_X0_cancelledOnOf_eq a b (E.2 ((jxw (y3 + 1)).toNat))
  have h153_ := f_X11_entry_r64_eq a b (a 58 8) (E.2 ((jxw (y3 + 1)).toNat))
  refine jt_ite (fun c154_ => ?_) (fun c154_ => ?_)
  ·
    exact hnext a b 
  ·
    exact absurd (by omega : False) id
theorem lw_op648 (E : jxE) (d : Nat) (hd : Nat.ble 60 (d + 1) = true) (hL : E.1 ≤ 6) (y3 : Int) (hy0 : y3 = 0) (hy1 : y3 + 6 ≤ E.1) (hnext : ∀ (a b : Nat → Nat → Int), jt (jxX E d 305 1189 [some (.inr (.inr (.inl 3000))), some (.inr (.inr (.inl 0))), some (.inr (.inr (.inl 146))), some (.inl y3)] [] (jxSH, a, b)) (fun v _ _ => v = [.inl 1])) (a b : Nat → Nat → Int) (hv : iv a) (hg0 : WFW a) (hg1 : SV a) (hg2 : OC a) (hg3 : FO a) (hg4 : FW a) (hg5 : FARR a) (hr0 : a 0 0 = 0) (hr1 : a 146 0 = 0) (hr2 : a 4 6 = 0) (hr3 : a 146 2 = 0) (hr4 : a 2 1 = 0) (hr5 : a 146 22 = 0) (hr6 : a 0 9 = 0) (hr7 : a 146 42 = 0) (hr8 : a 58 8 = 0) (hr9 : a 146 9 = 0) (hr10 : a 58 12 = 0) (hr11 : a 146 17 = 0) (hr12 : a 83 6 = 0) (hr13 : a 146 49 = 0) (hr14 : a 83 7 = 0) (hr15 : a 146 55 = 0) (hr16 : a 90 12 = 0) (hr17 : a 146 64 = 0) (hr18 : a 105 5 = 0) (hr19 : a 146 68 = 0) (hr20 : a 146 75 = 0) (hr21 : a 56 0 = 5) (hr22 : a 56 1 = 10) (hr23 : a 56 2 = 3) (hr24 : a 56 3 = 60) (hr25 : a 56 4 = 2) (hw142 : ∀ j : Nat, j < 8 → a 142 j = -1) (hw196 : ∀ j : Nat, j < 8 → a 196 j = -1) (hw143 : ∀ j : Nat, a 143 j = 0) (hw197 : ∀ j : Nat, a 197 j = 0) (hw144 : ∀ j : Nat, j < 8 → a 144 j = -1) (hw171 : ∀ j : Nat, (j = 0 → a 171 j = 5) ∧ (j = 1 → a 171 j = 10) ∧ (j = 2 → a 171 j = 3) ∧ (j = 3 → a 171 j = 60) ∧ (j = 4 → a 171 j = 2)) : jt (jxX E d 305 648 [some (.inr (.inr (.inl 3000))), some (.inr (.inr (.inl 0))), some (.inr (.inr (.inl 146))), some (.inl y3)] [] (jxSH, a, b)) (fun v _ _ => v = [.inl 1]) := by
  refine jt_eq (bq_law_648 E d y3 a b) ?_
  refine jt_bif (Nat.ble_eq_true_of_le (by omega)) ?_
  have h155_ : jxw (y3 + 1) = y3 + 1 := jxw_id (by omega) (by omega)
  refine jt_grd (by omega) ?_
  refine jt_bif (Nat.ble_eq_true_of_le (by omega)) ?_
  have h156_ : jxw (y3 + 2) = y3 + 2 := jxw_id (by omega) (by omega)
  refine jt_grd (by omega) ?_
  refine jt_bif (Nat.ble_eq_true_of_le (by omega)) ?_
  have h157_ : jxw (y3 + 3) = y3 + 3 := jxw_id (by omega) (by omega)
  refine jt_grd (by omega) ?_
  refine jt_bI (sp_X11_state E d (jd_le hd rfl) (E.2 ((jxw (y3 + 1)).toNat)) (E.2 ((jxw (y3 + 2)).toNat)) (E.2 ((jxw (y3 + 3)).toNat)) a b hv) (fun r158_ a158_ b158_ h158_ => ?_)
  obtain ⟨rfl, rfl, hq158_0⟩ := h158_
  have h159_ := iv_get hv (k := 58) (j := 8) (l := 0) (u := 300) rfl
  refine jt_bif (Nat.ble_eq_true_of_le (by omega)) ?_
  refine jt_grd (by omega) ?_
  refine jt_bif (Nat.ble_eq_true_of_le (by omega)) ?_
  refine jt_grd (by omega) ?_
  refine jt_bif (Nat.ble_eq_true_of_le (by omega)) ?_
  refine jt_grd (by omega) ?_
  refine jt_bI (sp_X12_state E d (jd_le hd rfl) (E.2 ((jxw (y3 + 1)).toNat)) (E.2 ((jxw (y3 + 2)).toNat)) (E.2 ((jxw (y3 + 3)).toNat)) a b hv) (fun r160_ a160_ b160_ h160_ => ?_)
  obtain ⟨rfl, rfl, hq160_0⟩ := h160_
  have h161_ := iv_get hv (k := 146) (j := 9) (l := 0) (u := 300) rfl
  refine jt_ite (fun c162_ => ?_) (fun c162_ => ?_)
  ·
    exact hnext a b 
  ·
    exact absurd (by omega : False) id
theorem lw_op691 (E : jxE) (d : Nat) (hd : Nat.ble 60 (d + 1) = true) (hL : E.1 ≤ 6) (y3 : Int) (hy0 : y3 = 0) (hy1 : y3 + 6 ≤ E.1) (hnext : ∀ (a b : Nat → Nat → Int), jt (jxX E d 305 1189 [some (.inr (.inr (.inl 3000))), some (.inr (.inr (.inl 0))), some (.inr (.inr (.inl 146))), some (.inl y3)] [] (jxSH, a, b)) (fun v _ _ => v = [.inl 1])) (a b : Nat → Nat → Int) (hv : iv a) (hg0 : WFW a) (hg1 : SV a) (hg2 : OC a) (hg3 : FO a) (hg4 : FW a) (hg5 : FARR a) (hr0 : a 0 0 = 0) (hr1 : a 146 0 = 0) (hr2 : a 4 6 = 0) (hr3 : a 146 2 = 0) (hr4 : a 2 1 = 0) (hr5 : a 146 22 = 0) (hr6 : a 0 9 = 0) (hr7 : a 146 42 = 0) (hr8 : a 58 8 = 0) (hr9 : a 146 9 = 0) (hr10 : a 58 12 = 0) (hr11 : a 146 17 = 0) (hr12 : a 83 6 = 0) (hr13 : a 146 49 = 0) (hr14 : a 83 7 = 0) (hr15 : a 146 55 = 0) (hr16 : a 90 12 = 0) (hr17 : a 146 64 = 0) (hr18 : a 105 5 = 0) (hr19 : a 146 68 = 0) (hr20 : a 146 75 = 0) (hr21 : a 56 0 = 5) (hr22 : a 56 1 = 10) (hr23 : a 56 2 = 3) (hr24 : a 56 3 = 60) (hr25 : a 56 4 = 2) (hw142 : ∀ j : Nat, j < 8 → a 142 j = -1) (hw196 : ∀ j : Nat, j < 8 → a 196 j = -1) (hw143 : ∀ j : Nat, a 143 j = 0) (hw197 : ∀ j : Nat, a 197 j = 0) (hw144 : ∀ j : Nat, j < 8 → a 144 j = -1) (hw171 : ∀ j : Nat, (j = 0 → a 171 j = 5) ∧ (j = 1 → a 171 j = 10) ∧ (j = 2 → a 171 j = 3) ∧ (j = 3 → a 171 j = 60) ∧ (j = 4 → a 171 j = 2)) : jt (jxX E d 305 691 [some (.inr (.inr (.inl 3000))), some (.inr (.inr (.inl 0))), some (.inr (.inr (.inl 146))), some (.inl y3)] [] (jxSH, a, b)) (fun v _ _ => v = [.inl 1]) := by
  refine jt_eq (bq_law_691 E d y3 a b) ?_
  refine jt_bif (Nat.ble_eq_true_of_le (by omega)) ?_
  have h163_ : jxw (y3 + 1) = y3 + 1 := jxw_id (by omega) (by omega)
  refine jt_grd (by omega) ?_
  refine jt_bif (Nat.ble_eq_true_of_le (by omega)) ?_
  have h164_ : jxw (y3 + 2) = y3 + 2 := jxw_id (by omega) (by omega)
  refine jt_grd (by omega) ?_
  refine jt_bI (sp_X11_about E d (jd_le hd rfl) (E.2 ((jxw (y3 + 1)).toNat)) (E.2 ((jxw (y3 + 2)).toNat)) a b hv) (fun r165_ a165_ b165_ h165_ => ?_)
  obtain ⟨hv165_, hf165_, rfl, hq165_0⟩ := h165_
  have h166_ := iv_get hv (k := 4) (j := 6) (l := 0) (u := 40) rfl
  refine jt_bif (Nat.ble_eq_true_of_le (by omega)) ?_
  refine jt_grd (by omega) ?_
  refine jt_bif (Nat.ble_eq_true_of_le (by omega)) ?_
  refine jt_grd (by omega) ?_
  refine jt_bI (sp_X12_about E d (jd_le hd rfl) (E.2 ((jxw (y3 + 1)).toNat)) (E.2 ((jxw (y3 + 2)).toNat)) a165_ b hv165_) (fun r167_ a167_ b167_ h167_ => ?_)
  obtain ⟨rfl, rfl, hq167_0⟩ := h167_
  have h168_ := iv_get hv165_ (k := 146) (j := 2) (l := 0) (u := 40) rfl
  have h169_ : a165_ 146 2 = a 146 2 := hf165_ 146 2 rfl
  have h170_ := iv_get hv (k := 146) (j := 2) (l := 0) (u := 40) rfl
  refine jt_ite (fun c171_ => ?_) (fun c171_ => ?_)
  ·
    exact hnext a165_ b 
  ·
    exact absurd (by omega : False) id
theorem lw_op724 (E : jxE) (d : Nat) (hd : Nat.ble 60 (d + 1) = true) (hL : E.1 ≤ 6) (y3 : Int) (hy0 : y3 = 0) (hy1 : y3 + 6 ≤ E.1) (hnext : ∀ (a b : Nat → Nat → Int), jt (jxX E d 305 1189 [some (.inr (.inr (.inl 3000))), some (.inr (.inr (.inl 0))), some (.inr (.inr (.inl 146))), some (.inl y3)] [] (jxSH, a, b)) (fun v _ _ => v = [.inl 1])) (a b : Nat → Nat → Int) (hv : iv a) (hg0 : WFW a) (hg1 : SV a) (hg2 : OC a) (hg3 : FO a) (hg4 : FW a) (hg5 : FARR a) (hr0 : a 0 0 = 0) (hr1 : a 146 0 = 0) (hr2 : a 4 6 = 0) (hr3 : a 146 2 = 0) (hr4 : a 2 1 = 0) (hr5 : a 146 22 = 0) (hr6 : a 0 9 = 0) (hr7 : a 146 42 = 0) (hr8 : a 58 8 = 0) (hr9 : a 146 9 = 0) (hr10 : a 58 12 = 0) (hr11 : a 146 17 = 0) (hr12 : a 83 6 = 0) (hr13 : a 146 49 = 0) (hr14 : a 83 7 = 0) (hr15 : a 146 55 = 0) (hr16 : a 90 12 = 0) (hr17 : a 146 64 = 0) (hr18 : a 105 5 = 0) (hr19 : a 146 68 = 0) (hr20 : a 146 75 = 0) (hr21 : a 56 0 = 5) (hr22 : a 56 1 = 10) (hr23 : a 56 2 = 3) (hr24 : a 56 3 = 60) (hr25 : a 56 4 = 2) (hw142 : ∀ j : Nat, j < 8 → a 142 j = -1) (hw196 : ∀ j : Nat, j < 8 → a 196 j = -1) (hw143 : ∀ j : Nat, a 143 j = 0) (hw197 : ∀ j : Nat, a 197 j = 0) (hw144 : ∀ j : Nat, j < 8 → a 144 j = -1) (hw171 : ∀ j : Nat, (j = 0 → a 171 j = 5) ∧ (j = 1 → a 171 j = 10) ∧ (j = 2 → a 171 j = 3) ∧ (j = 3 → a 171 j = 60) ∧ (j = 4 → a 171 j = 2)) : jt (jxX E d 305 724 [some (.inr (.inr (.inl 3000))), some (.inr (.inr (.inl 0))), some (.inr (.inr (.inl 146))), some (.inl y3)] [] (jxSH, a, b)) (fun v _ _ => v = [.inl 1]) := by
  refine jt_eq (bq_law_724 E d y3 a b) ?_
  refine jt_bif (Nat.ble_eq_true_of_le (by omega)) ?_
  have h172_ : jxw (y3 + 1) = y3 + 1 := jxw_id (by omega) (by omega)
  refine jt_grd (by omega) ?_
  refine jt_bI (sp_X11_album E d (jd_le hd rfl) (E.2 ((jxw (y3 + 1)).toNat)) a b hv) (fun r173_ a173_ b173_ h173_ => ?_)
  obtain ⟨rfl, rfl, hq173_0⟩ := h173_
  have h174_ := iv_get hv (k := 4) (j := 6) (l := 0) (u := 40) rfl
  refine jt_bif (Nat.ble_eq_true_of_le (by omega)) ?_
  refine jt_grd (by omega) ?_
  refine jt_bI (sp_X12_album E d (jd_le hd rfl) (E.2 ((jxw (y3 + 1)).toNat)) a b hv) (fun r175_ a175_ b175_ h175_ => ?_)
  obtain ⟨rfl, rfl, hq175_0⟩ := h175_
  have h176_ := iv_get hv (k := 146) (j := 2) (l := 0) (u := 40) rfl
  refine jt_ite (fun c177_ => ?_) (fun c177_ => ?_)
  ·
    exact hnext a b 
  ·
    exact absurd (by omega : False) id
theorem lw_op747 (E : jxE) (d : Nat) (hd : Nat.ble 60 (d + 1) = true) (hL : E.1 ≤ 6) (y3 : Int) (hy0 : y3 = 0) (hy1 : y3 + 6 ≤ E.1) (hnext : ∀ (a b : Nat → Nat → Int), jt (jxX E d 305 1189 [some (.inr (.inr (.inl 3000))), some (.inr (.inr (.inl 0))), some (.inr (.inr (.inl 146))), some (.inl y3)] [] (jxSH, a, b)) (fun v _ _ => v = [.inl 1])) (a b : Nat → Nat → Int) (hv : iv a) (hg0 : WFW a) (hg1 : SV a) (hg2 : OC a) (hg3 : FO a) (hg4 : FW a) (hg5 : FARR a) (hr0 : a 0 0 = 0) (hr1 : a 146 0 = 0) (hr2 : a 4 6 = 0) (hr3 : a 146 2 = 0) (hr4 : a 2 1 = 0) (hr5 : a 146 22 = 0) (hr6 : a 0 9 = 0) (hr7 : a 146 42 = 0) (hr8 : a 58 8 = 0) (hr9 : a 146 9 = 0) (hr10 : a 58 12 = 0) (hr11 : a 146 17 = 0) (hr12 : a 83 6 = 0) (hr13 : a 146 49 = 0) (hr14 : a 83 7 = 0) (hr15 : a 146 55 = 0) (hr16 : a 90 12 = 0) (hr17 : a 146 64 = 0) (hr18 : a 105 5 = 0) (hr19 : a 146 68 = 0) (hr20 : a 146 75 = 0) (hr21 : a 56 0 = 5) (hr22 : a 56 1 = 10) (hr23 : a 56 2 = 3) (hr24 : a 56 3 = 60) (hr25 : a 56 4 = 2) (hw142 : ∀ j : Nat, j < 8 → a 142 j = -1) (hw196 : ∀ j : Nat, j < 8 → a 196 j = -1) (hw143 : ∀ j : Nat, a 143 j = 0) (hw197 : ∀ j : Nat, a 197 j = 0) (hw144 : ∀ j : Nat, j < 8 → a 144 j = -1) (hw171 : ∀ j : Nat, (j = 0 → a 171 j = 5) ∧ (j = 1 → a 171 j = 10) ∧ (j = 2 → a 171 j = 3) ∧ (j = 3 → a 171 j = 60) ∧ (j = 4 → a 171 j = 2)) : jt (jxX E d 305 747 [some (.inr (.inr (.inl 3000))), some (.inr (.inr (.inl 0))), some (.inr (.inr (.inl 146))), some (.inl y3)] [] (jxSH, a, b)) (fun v _ _ => v = [.inl 1]) := by
  refine jt_eq (bq_law_747 E d y3 a b) ?_
  refine jt_bif (Nat.ble_eq_true_of_le (by omega)) ?_
  have h178_ : jxw (y3 + 1) = y3 + 1 := jxw_id (by omega) (by omega)
  refine jt_grd (by omega) ?_
  refine jt_bif (Nat.ble_eq_true_of_le (by omega)) ?_
  have h179_ : jxw (y3 + 2) = y3 + 2 := jxw_id (by omega) (by omega)
  refine jt_grd (by omega) ?_
  refine jt_bif (Nat.ble_eq_true_of_le (by omega)) ?_
  have h180_ : jxw (y3 + 3) = y3 + 3 := jxw_id (by omega) (by omega)
  refine jt_grd (by omega) ?_
  refine jt_bI (sp_X11_span E d (jd_le hd rfl) (E.2 ((jxw (y3 + 1)).toNat)) (E.2 ((jxw (y3 + 2)).toNat)) (E.2 ((jxw (y3 + 3)).toNat)) a b hv) (fun r181_ a181_ b181_ h181_ => ?_)
  obtain ⟨hv181_, hf181_, rfl, hq181_0⟩ := h181_
  have h182_ := iv_get hv (k := 58) (j := 12) (l := 0) (u := 600) rfl
  refine jt_bif (Nat.ble_eq_true_of_le (by omega)) ?_
  refine jt_grd (by omega) ?_
  refine jt_bif (Nat.ble_eq_true_of_le (by omega)) ?_
  refine jt_grd (by omega) ?_
  refine jt_bif (Nat.ble_eq_true_of_le (by omega)) ?_
  refine jt_grd (by omega) ?_
  refine jt_bI (sp_X12_span E d (jd_le hd rfl) (E.2 ((jxw (y3 + 1)).toNat)) (E.2 ((jxw (y3 + 2)).toNat)) (E.2 ((jxw (y3 + 3)).toNat)) a181_ b hv181_) (fun r183_ a183_ b183_ h183_ => ?_)
  obtain ⟨hv183_, hf183_, rfl, hq183_0⟩ := h183_
  have h184_ := iv_get hv181_ (k := 146) (j := 17) (l := 0) (u := 600) rfl
  have h185_ : a181_ 146 17 = a 146 17 := hf181_ 146 17 rfl
  have h186_ := iv_get hv (k := 146) (j := 17) (l := 0) (u := 600) rfl
  refine jt_ite (fun c187_ => ?_) (fun c187_ => ?_)
  ·
    exact hnext a183_ b 
  ·
    exact absurd (by omega : False) id
theorem lw_op790 (E : jxE) (d : Nat) (hd : Nat.ble 60 (d + 1) = true) (hL : E.1 ≤ 6) (y3 : Int) (hy0 : y3 = 0) (hy1 : y3 + 6 ≤ E.1) (hnext : ∀ (a b : Nat → Nat → Int), jt (jxX E d 305 1189 [some (.inr (.inr (.inl 3000))), some (.inr (.inr (.inl 0))), some (.inr (.inr (.inl 146))), some (.inl y3)] [] (jxSH, a, b)) (fun v _ _ => v = [.inl 1])) (a b : Nat → Nat → Int) (hv : iv a) (hg0 : WFW a) (hg1 : SV a) (hg2 : OC a) (hg3 : FO a) (hg4 : FW a) (hg5 : FARR a) (hr0 : a 0 0 = 0) (hr1 : a 146 0 = 0) (hr2 : a 4 6 = 0) (hr3 : a 146 2 = 0) (hr4 : a 2 1 = 0) (hr5 : a 146 22 = 0) (hr6 : a 0 9 = 0) (hr7 : a 146 42 = 0) (hr8 : a 58 8 = 0) (hr9 : a 146 9 = 0) (hr10 : a 58 12 = 0) (hr11 : a 146 17 = 0) (hr12 : a 83 6 = 0) (hr13 : a 146 49 = 0) (hr14 : a 83 7 = 0) (hr15 : a 146 55 = 0) (hr16 : a 90 12 = 0) (hr17 : a 146 64 = 0) (hr18 : a 105 5 = 0) (hr19 : a 146 68 = 0) (hr20 : a 146 75 = 0) (hr21 : a 56 0 = 5) (hr22 : a 56 1 = 10) (hr23 : a 56 2 = 3) (hr24 : a 56 3 = 60) (hr25 : a 56 4 = 2) (hw142 : ∀ j : Nat, j < 8 → a 142 j = -1) (hw196 : ∀ j : Nat, j < 8 → a 196 j = -1) (hw143 : ∀ j : Nat, a 143 j = 0) (hw197 : ∀ j : Nat, a 197 j = 0) (hw144 : ∀ j : Nat, j < 8 → a 144 j = -1) (hw171 : ∀ j : Nat, (j = 0 → a 171 j = 5) ∧ (j = 1 → a 171 j = 10) ∧ (j = 2 → a 171 j = 3) ∧ (j = 3 → a 171 j = 60) ∧ (j = 4 → a 171 j = 2)) : jt (jxX E d 305 790 [some (.inr (.inr (.inl 3000))), some (.inr (.inr (.inl 0))), some (.inr (.inr (.inl 146))), some (.inl y3)] [] (jxSH, a, b)) (fun v _ _ => v = [.inl 1]) := by
  refine jt_eq (bq_law_790 E d y3 a b) ?_
  refine jt_bif (Nat.ble_eq_true_of_le (by omega)) ?_
  have h188_ : jxw (y3 + 1) = y3 + 1 := jxw_id (by omega) (by omega)
  refine jt_grd (by omega) ?_
  refine jt_bif (Nat.ble_eq_true_of_le (by omega)) ?_
  have h189_ : jxw (y3 + 2) = y3 + 2 := jxw_id (by omega) (by omega)
  refine jt_grd (by omega) ?_
  refine jt_bif (Nat.ble_eq_true_of_le (by omega)) ?_
  have h190_ : jxw (y3 + 3) = y3 + 3 := jxw_id (by omega) (by omega)
  refine jt_grd (by omega) ?_
  refine jt_bI (sp_X11_offer E d (jd_le hd rfl) (E.2 ((jxw (y3 + 1)).toNat)) (E.2 ((jxw (y3 + 2)).toNat)) (E.2 ((jxw (y3 + 3)).toNat)) a b hv) (fun r191_ a191_ b191_ h191_ => ?_)
  obtain ⟨hv191_, hf191_, rfl, hq191_0, hq191_1⟩ := h191_
  have h192_ := iv_get hv (k := 4) (j := 6) (l := 0) (u := 40) rfl
  have h193_ := iv_get hv (k := 83) (j := 6) (l := 0) (u := 20) rfl
  have h194_ := iv_get hv191_ (k := 83) (j := 6) (l := 0) (u := 20) rfl
  refine jt_bif (Nat.ble_eq_true_of_le (by omega)) ?_
  refine jt_grd (by omega) ?_
  refine jt_bif (Nat.ble_eq_true_of_le (by omega)) ?_
  refine jt_grd (by omega) ?_
  refine jt_bif (Nat.ble_eq_true_of_le (by omega)) ?_
  refine jt_grd (by omega) ?_
  refine jt_bI (sp_X12_offer E d (jd_le hd rfl) (E.2 ((jxw (y3 + 1)).toNat)) (E.2 ((jxw (y3 + 2)).toNat)) (E.2 ((jxw (y3 + 3)).toNat)) a191_ b hv191_ (OC_fr hg2 hf191_ rfl rfl (fun _ => rfl) (fun _ => rfl) (fun _ => rfl) (fun _ => rfl) (fun _ => rfl)) (FO_fr hg3 hf191_ rfl rfl (fun _ => rfl)) (FW_fr hg4 hf191_ rfl (fun _ => rfl))) (fun r195_ a195_ b195_ h195_ => ?_)
  obtain ⟨hv195_, hf195_, rfl, hq195_0, hq195_1, hq195_2, hq195_3, hq195_4⟩ := h195_
  have h196_ := iv_get hv191_ (k := 146) (j := 2) (l := 0) (u := 40) rfl
  have h197_ : a191_ 146 2 = a 146 2 := hf191_ 146 2 rfl
  have h198_ := iv_get hv (k := 146) (j := 2) (l := 0) (u := 40) rfl
  have h199_ := iv_get hv191_ (k := 152) (j := (E.2 ((jxw (y3 + 1)).toNat)).toNat) (l := 0) (u := 1) rfl
  have h200_ : a191_ 152 ((E.2 ((jxw (y3 + 1)).toNat)).toNat) = a 152 ((E.2 ((jxw (y3 + 1)).toNat)).toNat) := hf191_ 152 ((E.2 ((jxw (y3 + 1)).toNat)).toNat) rfl
  have h201_ := iv_get hv (k := 152) (j := (E.2 ((jxw (y3 + 1)).toNat)).toNat) (l := 0) (u := 1) rfl
  have h202_ := iv_get hv191_ (k := 146) (j := 49) (l := 0) (u := 20) rfl
  have h203_ : a191_ 146 49 = a 146 49 := hf191_ 146 49 rfl
  have h204_ := iv_get hv (k := 146) (j := 49) (l := 0) (u := 20) rfl
  have h205_ := iv_get hv195_ (k := 146) (j := 49) (l := 0) (u := 20) rfl
  refine jt_ite (fun c206_ => ?_) (fun c206_ => ?_)
  ·
    exact hnext a195_ b 
  ·
    exact absurd (by omega : False) id
theorem lw_op833 (E : jxE) (d : Nat) (hd : Nat.ble 60 (d + 1) = true) (hL : E.1 ≤ 6) (y3 : Int) (hy0 : y3 = 0) (hy1 : y3 + 6 ≤ E.1) (hnext : ∀ (a b : Nat → Nat → Int), jt (jxX E d 305 1189 [some (.inr (.inr (.inl 3000))), some (.inr (.inr (.inl 0))), some (.inr (.inr (.inl 146))), some (.inl y3)] [] (jxSH, a, b)) (fun v _ _ => v = [.inl 1])) (a b : Nat → Nat → Int) (hv : iv a) (hg0 : WFW a) (hg1 : SV a) (hg2 : OC a) (hg3 : FO a) (hg4 : FW a) (hg5 : FARR a) (hr0 : a 0 0 = 0) (hr1 : a 146 0 = 0) (hr2 : a 4 6 = 0) (hr3 : a 146 2 = 0) (hr4 : a 2 1 = 0) (hr5 : a 146 22 = 0) (hr6 : a 0 9 = 0) (hr7 : a 146 42 = 0) (hr8 : a 58 8 = 0) (hr9 : a 146 9 = 0) (hr10 : a 58 12 = 0) (hr11 : a 146 17 = 0) (hr12 : a 83 6 = 0) (hr13 : a 146 49 = 0) (hr14 : a 83 7 = 0) (hr15 : a 146 55 = 0) (hr16 : a 90 12 = 0) (hr17 : a 146 64 = 0) (hr18 : a 105 5 = 0) (hr19 : a 146 68 = 0) (hr20 : a 146 75 = 0) (hr21 : a 56 0 = 5) (hr22 : a 56 1 = 10) (hr23 : a 56 2 = 3) (hr24 : a 56 3 = 60) (hr25 : a 56 4 = 2) (hw142 : ∀ j : Nat, j < 8 → a 142 j = -1) (hw196 : ∀ j : Nat, j < 8 → a 196 j = -1) (hw143 : ∀ j : Nat, a 143 j = 0) (hw197 : ∀ j : Nat, a 197 j = 0) (hw144 : ∀ j : Nat, j < 8 → a 144 j = -1) (hw171 : ∀ j : Nat, (j = 0 → a 171 j = 5) ∧ (j = 1 → a 171 j = 10) ∧ (j = 2 → a 171 j = 3) ∧ (j = 3 → a 171 j = 60) ∧ (j = 4 → a 171 j = 2)) : jt (jxX E d 305 833 [some (.inr (.inr (.inl 3000))), some (.inr (.inr (.inl 0))), some (.inr (.inr (.inl 146))), some (.inl y3)] [] (jxSH, a, b)) (fun v _ _ => v = [.inl 1]) := by
  refine jt_eq (bq_law_833 E d y3 a b) ?_
  refine jt_bif (Nat.ble_eq_true_of_le (by omega)) ?_
  have h207_ : jxw (y3 + 1) = y3 + 1 := jxw_id (by omega) (by omega)
  refine jt_grd (by omega) ?_
  refine jt_bI (sp_X11_away E d (jd_le hd rfl) (E.2 ((jxw (y3 + 1)).toNat)) a b hv) (fun r208_ a208_ b208_ h208_ => ?_)
  obtain ⟨hv208_, hf208_, rfl, hq208_0, hq208_1⟩ := h208_
  have h209_ := iv_get hv (k := 83) (j := 6) (l := 0) (u := 20) rfl
  refine jt_bif (Nat.ble_eq_true_of_le (by omega)) ?_
  refine jt_grd (by omega) ?_
  refine jt_bI (sp_X12_away E d (jd_le hd rfl) (E.2 ((jxw (y3 + 1)).toNat)) a208_ b hv208_ (OC_fr hg2 hf208_ rfl rfl (fun _ => rfl) (fun _ => rfl) (fun _ => rfl) (fun _ => rfl) (fun _ => rfl))) (fun r210_ a210_ b210_ h210_ => ?_)
  obtain ⟨hv210_, hf210_, rfl, hq210_0, hq210_1, hq210_2⟩ := h210_
  have h211_ := iv_get hv208_ (k := 146) (j := 49) (l := 0) (u := 20) rfl
  have h212_ : a208_ 146 49 = a 146 49 := hf208_ 146 49 rfl
  have h213_ := iv_get hv (k := 146) (j := 49) (l := 0) (u := 20) rfl
  refine jt_ite (fun c214_ => ?_) (fun c214_ => ?_)
  ·
    exact hnext a210_ b 
  ·
    exact absurd (by omega : False) id
theorem lw_op856 (E : jxE) (d : Nat) (hd : Nat.ble 60 (d + 1) = true) (hL : E.1 ≤ 6) (y3 : Int) (hy0 : y3 = 0) (hy1 : y3 + 6 ≤ E.1) (hnext : ∀ (a b : Nat → Nat → Int), jt (jxX E d 305 1189 [some (.inr (.inr (.inl 3000))), some (.inr (.inr (.inl 0))), some (.inr (.inr (.inl 146))), some (.inl y3)] [] (jxSH, a, b)) (fun v _ _ => v = [.inl 1])) (a b : Nat → Nat → Int) (hv : iv a) (hg0 : WFW a) (hg1 : SV a) (hg2 : OC a) (hg3 : FO a) (hg4 : FW a) (hg5 : FARR a) (hr0 : a 0 0 = 0) (hr1 : a 146 0 = 0) (hr2 : a 4 6 = 0) (hr3 : a 146 2 = 0) (hr4 : a 2 1 = 0) (hr5 : a 146 22 = 0) (hr6 : a 0 9 = 0) (hr7 : a 146 42 = 0) (hr8 : a 58 8 = 0) (hr9 : a 146 9 = 0) (hr10 : a 58 12 = 0) (hr11 : a 146 17 = 0) (hr12 : a 83 6 = 0) (hr13 : a 146 49 = 0) (hr14 : a 83 7 = 0) (hr15 : a 146 55 = 0) (hr16 : a 90 12 = 0) (hr17 : a 146 64 = 0) (hr18 : a 105 5 = 0) (hr19 : a 146 68 = 0) (hr20 : a 146 75 = 0) (hr21 : a 56 0 = 5) (hr22 : a 56 1 = 10) (hr23 : a 56 2 = 3) (hr24 : a 56 3 = 60) (hr25 : a 56 4 = 2) (hw142 : ∀ j : Nat, j < 8 → a 142 j = -1) (hw196 : ∀ j : Nat, j < 8 → a 196 j = -1) (hw143 : ∀ j : Nat, a 143 j = 0) (hw197 : ∀ j : Nat, a 197 j = 0) (hw144 : ∀ j : Nat, j < 8 → a 144 j = -1) (hw171 : ∀ j : Nat, (j = 0 → a 171 j = 5) ∧ (j = 1 → a 171 j = 10) ∧ (j = 2 → a 171 j = 3) ∧ (j = 3 → a 171 j = 60) ∧ (j = 4 → a 171 j = 2)) : jt (jxX E d 305 856 [some (.inr (.inr (.inl 3000))), some (.inr (.inr (.inl 0))), some (.inr (.inr (.inl 146))), some (.inl y3)] [] (jxSH, a, b)) (fun v _ _ => v = [.inl 1]) := by
  refine jt_eq (bq_law_856 E d y3 a b) ?_
  refine jt_bI (sp_X11_rings E d (jd_le hd rfl) a b hv) (fun r215_ a215_ b215_ h215_ => ?_)
  obtain ⟨hv215_, hf215_, hq215_0⟩ := h215_
  have h216_ := iv_get hv (k := 83) (j := 6) (l := 0) (u := 20) rfl
  refine jt_bI (sp_X12_rings E d (jd_le hd rfl) a215_ b215_ hv215_ (FO_fr hg3 hf215_ rfl rfl (fun _ => rfl)) (FW_fr hg4 hf215_ rfl (fun _ => rfl))) (fun r217_ a217_ b217_ h217_ => ?_)
  obtain ⟨hv217_, hf217_, rfl, hq217_0, hq217_1, hq217_2⟩ := h217_
  have h218_ := iv_get hv215_ (k := 146) (j := 49) (l := 0) (u := 20) rfl
  have h219_ : a215_ 146 49 = a 146 49 := hf215_ 146 49 rfl
  have h220_ := iv_get hv (k := 146) (j := 49) (l := 0) (u := 20) rfl
  refine jt_ite (fun c221_ => ?_) (fun c221_ => ?_)
  ·
    exact hnext a217_ b215_ 
  ·
    exact absurd (by omega : False) id
theorem lw_op869 (E : jxE) (d : Nat) (hd : Nat.ble 60 (d + 1) = true) (hL : E.1 ≤ 6) (y3 : Int) (hy0 : y3 = 0) (hy1 : y3 + 6 ≤ E.1) (hnext : ∀ (a b : Nat → Nat → Int), jt (jxX E d 305 1189 [some (.inr (.inr (.inl 3000))), some (.inr (.inr (.inl 0))), some (.inr (.inr (.inl 146))), some (.inl y3)] [] (jxSH, a, b)) (fun v _ _ => v = [.inl 1])) (a b : Nat → Nat → Int) (hv : iv a) (hg0 : WFW a) (hg1 : SV a) (hg2 : OC a) (hg3 : FO a) (hg4 : FW a) (hg5 : FARR a) (hr0 : a 0 0 = 0) (hr1 : a 146 0 = 0) (hr2 : a 4 6 = 0) (hr3 : a 146 2 = 0) (hr4 : a 2 1 = 0) (hr5 : a 146 22 = 0) (hr6 : a 0 9 = 0) (hr7 : a 146 42 = 0) (hr8 : a 58 8 = 0) (hr9 : a 146 9 = 0) (hr10 : a 58 12 = 0) (hr11 : a 146 17 = 0) (hr12 : a 83 6 = 0) (hr13 : a 146 49 = 0) (hr14 : a 83 7 = 0) (hr15 : a 146 55 = 0) (hr16 : a 90 12 = 0) (hr17 : a 146 64 = 0) (hr18 : a 105 5 = 0) (hr19 : a 146 68 = 0) (hr20 : a 146 75 = 0) (hr21 : a 56 0 = 5) (hr22 : a 56 1 = 10) (hr23 : a 56 2 = 3) (hr24 : a 56 3 = 60) (hr25 : a 56 4 = 2) (hw142 : ∀ j : Nat, j < 8 → a 142 j = -1) (hw196 : ∀ j : Nat, j < 8 → a 196 j = -1) (hw143 : ∀ j : Nat, a 143 j = 0) (hw197 : ∀ j : Nat, a 197 j = 0) (hw144 : ∀ j : Nat, j < 8 → a 144 j = -1) (hw171 : ∀ j : Nat, (j = 0 → a 171 j = 5) ∧ (j = 1 → a 171 j = 10) ∧ (j = 2 → a 171 j = 3) ∧ (j = 3 → a 171 j = 60) ∧ (j = 4 → a 171 j = 2)) : jt (jxX E d 305 869 [some (.inr (.inr (.inl 3000))), some (.inr (.inr (.inl 0))), some (.inr (.inr (.inl 146))), some (.inl y3)] [] (jxSH, a, b)) (fun v _ _ => v = [.inl 1]) := by
  refine jt_eq (bq_law_869 E d y3 a b) ?_
  refine jt_bif (Nat.ble_eq_true_of_le (by omega)) ?_
  have h222_ : jxw (y3 + 1) = y3 + 1 := jxw_id (by omega) (by omega)
  refine jt_grd (by omega) ?_
  refine jt_bif (Nat.ble_eq_true_of_le (by omega)) ?_
  have h223_ : jxw (y3 + 2) = y3 + 2 := jxw_id (by omega) (by omega)
  refine jt_grd (by omega) ?_
  refine jt_eI (eq_X11_ring E d (jd_le hd rfl) (E.2 ((jxw (y3 + 1)).toNat)) (E.2 ((jxw (y3 + 2)).toNat)) a b) ?_
  refine jt_bif (Nat.ble_eq_true_of_le (by omega)) ?_
  refine jt_grd (by omega) ?_
  refine jt_bif (Nat.ble_eq_true_of_le (by omega)) ?_
  refine jt_grd (by omega) ?_
  refine jt_eI (eq_X12_ring E d (jd_le hd rfl) (E.2 ((jxw (y3 + 1)).toNat)) (E.2 ((jxw (y3 + 2)).toNat)) a b hv) ?_
  have h224_ := f_X11_ring_eq a b (E.2 ((jxw (y3 + 1)).toNat)) (E.2 ((jxw (y3 + 2)).toNat))
  have h225_ := f_X5_offerAt_eq a b (E.2 ((jxw (y3 + 1)).toNat)) (E.2 ((jxw (y3 + 2)).toNat))
  have h226_ := f_X5_lengthOf_eq a b (E.2 ((jxw (y3 + 1)).toNat))
  have h227_ := iv_get hv (k := 90) (j := 12) (l := 0) (u := 6) rfl
  have h228_ := iv_get hv (k := 104) (j := (E.2 ((jxw (y3 + 1)).toNat)).toNat) (l := 0) (u := 5) rfl
  have h229_ := ff_X12_ring a b (E.2 ((jxw (y3 + 1)).toNat)) (E.2 ((jxw (y3 + 2)).toNat)) hv
  have h230_ := iv_get hv (k := 146) (j := 64) (l := 0) (u := 6) rfl
  refine jt_ite (fun c231_ => ?_) (fun c231_ => ?_)
  ·
    exact hnext a b 
  ·
    exact absurd (by omega : False) id
theorem lw_op902 (E : jxE) (d : Nat) (hd : Nat.ble 60 (d + 1) = true) (hL : E.1 ≤ 6) (y3 : Int) (hy0 : y3 = 0) (hy1 : y3 + 6 ≤ E.1) (hnext : ∀ (a b : Nat → Nat → Int), jt (jxX E d 305 1189 [some (.inr (.inr (.inl 3000))), some (.inr (.inr (.inl 0))), some (.inr (.inr (.inl 146))), some (.inl y3)] [] (jxSH, a, b)) (fun v _ _ => v = [.inl 1])) (a b : Nat → Nat → Int) (hv : iv a) (hg0 : WFW a) (hg1 : SV a) (hg2 : OC a) (hg3 : FO a) (hg4 : FW a) (hg5 : FARR a) (hr0 : a 0 0 = 0) (hr1 : a 146 0 = 0) (hr2 : a 4 6 = 0) (hr3 : a 146 2 = 0) (hr4 : a 2 1 = 0) (hr5 : a 146 22 = 0) (hr6 : a 0 9 = 0) (hr7 : a 146 42 = 0) (hr8 : a 58 8 = 0) (hr9 : a 146 9 = 0) (hr10 : a 58 12 = 0) (hr11 : a 146 17 = 0) (hr12 : a 83 6 = 0) (hr13 : a 146 49 = 0) (hr14 : a 83 7 = 0) (hr15 : a 146 55 = 0) (hr16 : a 90 12 = 0) (hr17 : a 146 64 = 0) (hr18 : a 105 5 = 0) (hr19 : a 146 68 = 0) (hr20 : a 146 75 = 0) (hr21 : a 56 0 = 5) (hr22 : a 56 1 = 10) (hr23 : a 56 2 = 3) (hr24 : a 56 3 = 60) (hr25 : a 56 4 = 2) (hw142 : ∀ j : Nat, j < 8 → a 142 j = -1) (hw196 : ∀ j : Nat, j < 8 → a 196 j = -1) (hw143 : ∀ j : Nat, a 143 j = 0) (hw197 : ∀ j : Nat, a 197 j = 0) (hw144 : ∀ j : Nat, j < 8 → a 144 j = -1) (hw171 : ∀ j : Nat, (j = 0 → a 171 j = 5) ∧ (j = 1 → a 171 j = 10) ∧ (j = 2 → a 171 j = 3) ∧ (j = 3 → a 171 j = 60) ∧ (j = 4 → a 171 j = 2)) : jt (jxX E d 305 902 [some (.inr (.inr (.inl 3000))), some (.inr (.inr (.inl 0))), some (.inr (.inr (.inl 146))), some (.inl y3)] [] (jxSH, a, b)) (fun v _ _ => v = [.inl 1]) := by
  refine jt_eq (bq_law_902 E d y3 a b) ?_
  refine jt_bif (Nat.ble_eq_true_of_le (by omega)) ?_
  have h232_ : jxw (y3 + 1) = y3 + 1 := jxw_id (by omega) (by omega)
  refine jt_grd (by omega) ?_
  refine jt_bI (sp_X11_close E d (jd_le hd rfl) (E.2 ((jxw (y3 + 1)).toNat)) a b hv) (fun r233_ a233_ b233_ h233_ => ?_)
  obtain ⟨hv233_, hf233_, rfl, hq233_0⟩ := h233_
  have h234_ := iv_get hv (k := 90) (j := 12) (l := 0) (u := 6) rfl
  refine jt_bif (Nat.ble_eq_true_of_le (by omega)) ?_
  refine jt_grd (by omega) ?_
  refine jt_bI (sp_X12_close E d (jd_le hd rfl) (E.2 ((jxw (y3 + 1)).toNat)) a233_ b hv233_ (OC_fr hg2 hf233_ rfl rfl (fun _ => rfl) (fun _ => rfl) (fun _ => rfl) (fun _ => rfl) (fun _ => rfl)) (FO_fr hg3 hf233_ rfl rfl (fun _ => rfl))) (fun r235_ a235_ b235_ h235_ => ?_)
  obtain ⟨hv235_, hf235_, rfl, hq235_0, hq235_1⟩ := h235_
  have h236_ := iv_get hv233_ (k := 146) (j := 64) (l := 0) (u := 6) rfl
  have h237_ : a233_ 146 64 = a 146 64 := hf233_ 146 64 rfl
  have h238_ := iv_get hv (k := 146) (j := 64) (l := 0) (u := 6) rfl
  refine jt_ite (fun c239_ => ?_) (fun c239_ => ?_)
  ·
    exact hnext a235_ b 
  ·
    exact absurd (by omega : False) id
theorem lw_op925 (E : jxE) (d : Nat) (hd : Nat.ble 60 (d + 1) = true) (hL : E.1 ≤ 6) (y3 : Int) (hy0 : y3 = 0) (hy1 : y3 + 6 ≤ E.1) (hnext : ∀ (a b : Nat → Nat → Int), jt (jxX E d 305 1189 [some (.inr (.inr (.inl 3000))), some (.inr (.inr (.inl 0))), some (.inr (.inr (.inl 146))), some (.inl y3)] [] (jxSH, a, b)) (fun v _ _ => v = [.inl 1])) (a b : Nat → Nat → Int) (hv : iv a) (hg0 : WFW a) (hg1 : SV a) (hg2 : OC a) (hg3 : FO a) (hg4 : FW a) (hg5 : FARR a) (hr0 : a 0 0 = 0) (hr1 : a 146 0 = 0) (hr2 : a 4 6 = 0) (hr3 : a 146 2 = 0) (hr4 : a 2 1 = 0) (hr5 : a 146 22 = 0) (hr6 : a 0 9 = 0) (hr7 : a 146 42 = 0) (hr8 : a 58 8 = 0) (hr9 : a 146 9 = 0) (hr10 : a 58 12 = 0) (hr11 : a 146 17 = 0) (hr12 : a 83 6 = 0) (hr13 : a 146 49 = 0) (hr14 : a 83 7 = 0) (hr15 : a 146 55 = 0) (hr16 : a 90 12 = 0) (hr17 : a 146 64 = 0) (hr18 : a 105 5 = 0) (hr19 : a 146 68 = 0) (hr20 : a 146 75 = 0) (hr21 : a 56 0 = 5) (hr22 : a 56 1 = 10) (hr23 : a 56 2 = 3) (hr24 : a 56 3 = 60) (hr25 : a 56 4 = 2) (hw142 : ∀ j : Nat, j < 8 → a 142 j = -1) (hw196 : ∀ j : Nat, j < 8 → a 196 j = -1) (hw143 : ∀ j : Nat, a 143 j = 0) (hw197 : ∀ j : Nat, a 197 j = 0) (hw144 : ∀ j : Nat, j < 8 → a 144 j = -1) (hw171 : ∀ j : Nat, (j = 0 → a 171 j = 5) ∧ (j = 1 → a 171 j = 10) ∧ (j = 2 → a 171 j = 3) ∧ (j = 3 → a 171 j = 60) ∧ (j = 4 → a 171 j = 2)) : jt (jxX E d 305 925 [some (.inr (.inr (.inl 3000))), some (.inr (.inr (.inl 0))), some (.inr (.inr (.inl 146))), some (.inl y3)] [] (jxSH, a, b)) (fun v _ _ => v = [.inl 1]) := by
  refine jt_eq (bq_law_925 E d y3 a b) ?_
  refine jt_bif (Nat.ble_eq_true_of_le (by omega)) ?_
  have h240_ : jxw (y3 + 1) = y3 + 1 := jxw_id (by omega) (by omega)
  refine jt_grd (by omega) ?_
  refine jt_bif (Nat.ble_eq_true_of_le (by omega)) ?_
  have h241_ : jxw (y3 + 2) = y3 + 2 := jxw_id (by omega) (by omega)
  refine jt_grd (by omega) ?_
  refine jt_bI (sp_X11_drop E d (jd_le hd rfl) (E.2 ((jxw (y3 + 1)).toNat)) (E.2 ((jxw (y3 + 2)).toNat)) a b hv) (fun r242_ a242_ b242_ h242_ => ?_)
  obtain ⟨hv242_, hf242_, rfl, hq242_0⟩ := h242_
  have h243_ := iv_get hv (k := 83) (j := 6) (l := 0) (u := 20) rfl
  refine jt_bif (Nat.ble_eq_true_of_le (by omega)) ?_
  refine jt_grd (by omega) ?_
  refine jt_bif (Nat.ble_eq_true_of_le (by omega)) ?_
  refine jt_grd (by omega) ?_
  refine jt_bI (sp_X12_drop E d (jd_le hd rfl) (E.2 ((jxw (y3 + 1)).toNat)) (E.2 ((jxw (y3 + 2)).toNat)) a242_ b hv242_ (OC_fr hg2 hf242_ rfl rfl (fun _ => rfl) (fun _ => rfl) (fun _ => rfl) (fun _ => rfl) (fun _ => rfl))) (fun r244_ a244_ b244_ h244_ => ?_)
  obtain ⟨hv244_, hf244_, rfl, hq244_0, hq244_1⟩ := h244_
  have h245_ : a242_ 146 55 = a 146 55 := hf242_ 146 55 rfl
  refine jt_ite (fun c246_ => ?_) (fun c246_ => ?_)
  ·
    exact hnext a244_ b 
  ·
    exact absurd (by omega : False) id
theorem lw_op958 (E : jxE) (d : Nat) (hd : Nat.ble 60 (d + 1) = true) (hL : E.1 ≤ 6) (y3 : Int) (hy0 : y3 = 0) (hy1 : y3 + 6 ≤ E.1) (hnext : ∀ (a b : Nat → Nat → Int), jt (jxX E d 305 1189 [some (.inr (.inr (.inl 3000))), some (.inr (.inr (.inl 0))), some (.inr (.inr (.inl 146))), some (.inl y3)] [] (jxSH, a, b)) (fun v _ _ => v = [.inl 1])) (a b : Nat → Nat → Int) (hv : iv a) (hg0 : WFW a) (hg1 : SV a) (hg2 : OC a) (hg3 : FO a) (hg4 : FW a) (hg5 : FARR a) (hr0 : a 0 0 = 0) (hr1 : a 146 0 = 0) (hr2 : a 4 6 = 0) (hr3 : a 146 2 = 0) (hr4 : a 2 1 = 0) (hr5 : a 146 22 = 0) (hr6 : a 0 9 = 0) (hr7 : a 146 42 = 0) (hr8 : a 58 8 = 0) (hr9 : a 146 9 = 0) (hr10 : a 58 12 = 0) (hr11 : a 146 17 = 0) (hr12 : a 83 6 = 0) (hr13 : a 146 49 = 0) (hr14 : a 83 7 = 0) (hr15 : a 146 55 = 0) (hr16 : a 90 12 = 0) (hr17 : a 146 64 = 0) (hr18 : a 105 5 = 0) (hr19 : a 146 68 = 0) (hr20 : a 146 75 = 0) (hr21 : a 56 0 = 5) (hr22 : a 56 1 = 10) (hr23 : a 56 2 = 3) (hr24 : a 56 3 = 60) (hr25 : a 56 4 = 2) (hw142 : ∀ j : Nat, j < 8 → a 142 j = -1) (hw196 : ∀ j : Nat, j < 8 → a 196 j = -1) (hw143 : ∀ j : Nat, a 143 j = 0) (hw197 : ∀ j : Nat, a 197 j = 0) (hw144 : ∀ j : Nat, j < 8 → a 144 j = -1) (hw171 : ∀ j : Nat, (j = 0 → a 171 j = 5) ∧ (j = 1 → a 171 j = 10) ∧ (j = 2 → a 171 j = 3) ∧ (j = 3 → a 171 j = 60) ∧ (j = 4 → a 171 j = 2)) : jt (jxX E d 305 958 [some (.inr (.inr (.inl 3000))), some (.inr (.inr (.inl 0))), some (.inr (.inr (.inl 146))), some (.inl y3)] [] (jxSH, a, b)) (fun v _ _ => v = [.inl 1]) := by
  refine jt_eq (bq_law_958 E d y3 a b) ?_
  refine jt_bif (Nat.ble_eq_true_of_le (by omega)) ?_
  have h247_ : jxw (y3 + 1) = y3 + 1 := jxw_id (by omega) (by omega)
  refine jt_grd (by omega) ?_
  refine jt_bif (Nat.ble_eq_true_of_le (by omega)) ?_
  have h248_ : jxw (y3 + 2) = y3 + 2 := jxw_id (by omega) (by omega)
  refine jt_grd (by omega) ?_
  refine jt_eI (eq_X11_offers E d (jd_le hd rfl) (E.2 ((jxw (y3 + 1)).toNat)) (E.2 ((jxw (y3 + 2)).toNat)) a b) ?_
  refine jt_bif (Nat.ble_eq_true_of_le (by omega)) ?_
  refine jt_grd (by omega) ?_
  refine jt_bif (Nat.ble_eq_true_of_le (by omega)) ?_
  refine jt_grd (by omega) ?_
  refine jt_eI (eq_X12_offers E d (jd_le hd rfl) (E.2 ((jxw (y3 + 1)).toNat)) (E.2 ((jxw (y3 + 2)).toNat)) a b hv) ?_
  have h249_ := f_X11_offers_eq a b (E.2 ((jxw (y3 + 1)).toNat)) (E.2 ((jxw (y3 + 2)).toNat))
  have h250_ := f_X4_memberOf_eq a b (E.2 ((jxw (y3 + 1)).toNat))
  have h251_ := iv_get hv (k := 83) (j := 6) (l := 0) (u := 20) rfl
  have h252_ := f_X11_entry_r84_eq a b (a 83 6) (E.2 ((jxw (y3 + 1)).toNat))
  have h253_ := f_X4_kindOf_eq a b (E.2 ((jxw (y3 + 1)).toNat))
  have h254_ := f_X11_entry_r85_eq a b (a 83 6) (E.2 ((jxw (y3 + 1)).toNat))
  have h255_ := f_X4_has_eq a b (E.2 ((jxw (y3 + 1)).toNat))
  have h256_ := f_X4_wantsOf_eq a b (E.2 ((jxw (y3 + 1)).toNat))
  have h257_ := f_X4_conditionOf_eq a b (E.2 ((jxw (y3 + 1)).toNat))
  have h258_ := f_X11_entry_r87_eq a b (a 83 6) (E.2 ((jxw (y3 + 1)).toNat))
  have h259_ := f_X4_ringOf_eq a b (E.2 ((jxw (y3 + 1)).toNat))
  have h260_ := f_X11_entry_r88_eq a b (a 83 6) (E.2 ((jxw (y3 + 1)).toNat))
  have h261_ := f_X12_offers_eq a b (E.2 ((jxw (y3 + 1)).toNat)) (E.2 ((jxw (y3 + 2)).toNat))
  have h262_ := iv_get hv (k := 146) (j := 49) (l := 0) (u := 20) rfl
  have h263_ : jxw ((a 146 49) - 1) = (a 146 49) - 1 := jxw_id (by omega) (by omega)
  have h264_ := f_X12_in_eq a b (E.2 ((jxw (y3 + 1)).toNat)) 0 (jxw ((a 146 49) - 1))
  have h265_ := iv_get hv (k := 178) (j := (E.2 ((jxw (y3 + 1)).toNat)).toNat) (l := 0) (u := 39) rfl
  have h266_ := iv_get hv (k := 179) (j := (E.2 ((jxw (y3 + 1)).toNat)).toNat) (l := 0) (u := 31) rfl
  have h267_ := iv_get hv (k := 181) (j := (E.2 ((jxw (y3 + 1)).toNat)).toNat) (l := 0) (u := 2) rfl
  refine jt_ite (fun c268_ => ?_) (fun c268_ => ?_)
  ·
    exact hnext a b 
  ·
    exact absurd (by omega : False) id
theorem lw_op991 (E : jxE) (d : Nat) (hd : Nat.ble 60 (d + 1) = true) (hL : E.1 ≤ 6) (y3 : Int) (hy0 : y3 = 0) (hy1 : y3 + 6 ≤ E.1) (hnext : ∀ (a b : Nat → Nat → Int), jt (jxX E d 305 1189 [some (.inr (.inr (.inl 3000))), some (.inr (.inr (.inl 0))), some (.inr (.inr (.inl 146))), some (.inl y3)] [] (jxSH, a, b)) (fun v _ _ => v = [.inl 1])) (a b : Nat → Nat → Int) (hv : iv a) (hg0 : WFW a) (hg1 : SV a) (hg2 : OC a) (hg3 : FO a) (hg4 : FW a) (hg5 : FARR a) (hr0 : a 0 0 = 0) (hr1 : a 146 0 = 0) (hr2 : a 4 6 = 0) (hr3 : a 146 2 = 0) (hr4 : a 2 1 = 0) (hr5 : a 146 22 = 0) (hr6 : a 0 9 = 0) (hr7 : a 146 42 = 0) (hr8 : a 58 8 = 0) (hr9 : a 146 9 = 0) (hr10 : a 58 12 = 0) (hr11 : a 146 17 = 0) (hr12 : a 83 6 = 0) (hr13 : a 146 49 = 0) (hr14 : a 83 7 = 0) (hr15 : a 146 55 = 0) (hr16 : a 90 12 = 0) (hr17 : a 146 64 = 0) (hr18 : a 105 5 = 0) (hr19 : a 146 68 = 0) (hr20 : a 146 75 = 0) (hr21 : a 56 0 = 5) (hr22 : a 56 1 = 10) (hr23 : a 56 2 = 3) (hr24 : a 56 3 = 60) (hr25 : a 56 4 = 2) (hw142 : ∀ j : Nat, j < 8 → a 142 j = -1) (hw196 : ∀ j : Nat, j < 8 → a 196 j = -1) (hw143 : ∀ j : Nat, a 143 j = 0) (hw197 : ∀ j : Nat, a 197 j = 0) (hw144 : ∀ j : Nat, j < 8 → a 144 j = -1) (hw171 : ∀ j : Nat, (j = 0 → a 171 j = 5) ∧ (j = 1 → a 171 j = 10) ∧ (j = 2 → a 171 j = 3) ∧ (j = 3 → a 171 j = 60) ∧ (j = 4 → a 171 j = 2)) : jt (jxX E d 305 991 [some (.inr (.inr (.inl 3000))), some (.inr (.inr (.inl 0))), some (.inr (.inr (.inl 146))), some (.inl y3)] [] (jxSH, a, b)) (fun v _ _ => v = [.inl 1]) := by
  refine jt_eq (bq_law_991 E d y3 a b) ?_
  refine jt_bif (Nat.ble_eq_true_of_le (by omega)) ?_
  have h269_ : jxw (y3 + 1) = y3 + 1 := jxw_id (by omega) (by omega)
  refine jt_grd (by omega) ?_
  refine jt_bI (sp_X11_rates E d (jd_le hd rfl) (E.2 ((jxw (y3 + 1)).toNat)) a b hv) (fun r270_ a270_ b270_ h270_ => ?_)
  obtain ⟨hv270_, hf270_, rfl, hq270_0⟩ := h270_
  have h271_ := iv_get hv (k := 2) (j := 1) (l := 0) (u := 200) rfl
  have h272_ := iv_get hv (k := 105) (j := 5) (l := 0) (u := 10) rfl
  refine jt_bif (Nat.ble_eq_true_of_le (by omega)) ?_
  refine jt_grd (by omega) ?_
  refine jt_bI (sp_X12_rates E d (jd_le hd rfl) (E.2 ((jxw (y3 + 1)).toNat)) a270_ b hv270_) (fun r273_ a273_ b273_ h273_ => ?_)
  obtain ⟨hv273_, hf273_, rfl, hq273_0⟩ := h273_
  have h274_ := iv_get hv270_ (k := 146) (j := 22) (l := 0) (u := 200) rfl
  have h275_ : a270_ 146 22 = a 146 22 := hf270_ 146 22 rfl
  have h276_ := iv_get hv (k := 146) (j := 22) (l := 0) (u := 200) rfl
  have h277_ := iv_get hv270_ (k := 146) (j := 68) (l := 0) (u := 10) rfl
  have h278_ : a270_ 146 68 = a 146 68 := hf270_ 146 68 rfl
  have h279_ := iv_get hv (k := 146) (j := 68) (l := 0) (u := 10) rfl
  refine jt_ite (fun c280_ => ?_) (fun c280_ => ?_)
  ·
    exact hnext a273_ b 
  ·
    exact absurd (by omega : False) id
theorem lw_op1014 (E : jxE) (d : Nat) (hd : Nat.ble 60 (d + 1) = true) (hL : E.1 ≤ 6) (y3 : Int) (hy0 : y3 = 0) (hy1 : y3 + 6 ≤ E.1) (hnext : ∀ (a b : Nat → Nat → Int), jt (jxX E d 305 1189 [some (.inr (.inr (.inl 3000))), some (.inr (.inr (.inl 0))), some (.inr (.inr (.inl 146))), some (.inl y3)] [] (jxSH, a, b)) (fun v _ _ => v = [.inl 1])) (a b : Nat → Nat → Int) (hv : iv a) (hg0 : WFW a) (hg1 : SV a) (hg2 : OC a) (hg3 : FO a) (hg4 : FW a) (hg5 : FARR a) (hr0 : a 0 0 = 0) (hr1 : a 146 0 = 0) (hr2 : a 4 6 = 0) (hr3 : a 146 2 = 0) (hr4 : a 2 1 = 0) (hr5 : a 146 22 = 0) (hr6 : a 0 9 = 0) (hr7 : a 146 42 = 0) (hr8 : a 58 8 = 0) (hr9 : a 146 9 = 0) (hr10 : a 58 12 = 0) (hr11 : a 146 17 = 0) (hr12 : a 83 6 = 0) (hr13 : a 146 49 = 0) (hr14 : a 83 7 = 0) (hr15 : a 146 55 = 0) (hr16 : a 90 12 = 0) (hr17 : a 146 64 = 0) (hr18 : a 105 5 = 0) (hr19 : a 146 68 = 0) (hr20 : a 146 75 = 0) (hr21 : a 56 0 = 5) (hr22 : a 56 1 = 10) (hr23 : a 56 2 = 3) (hr24 : a 56 3 = 60) (hr25 : a 56 4 = 2) (hw142 : ∀ j : Nat, j < 8 → a 142 j = -1) (hw196 : ∀ j : Nat, j < 8 → a 196 j = -1) (hw143 : ∀ j : Nat, a 143 j = 0) (hw197 : ∀ j : Nat, a 197 j = 0) (hw144 : ∀ j : Nat, j < 8 → a 144 j = -1) (hw171 : ∀ j : Nat, (j = 0 → a 171 j = 5) ∧ (j = 1 → a 171 j = 10) ∧ (j = 2 → a 171 j = 3) ∧ (j = 3 → a 171 j = 60) ∧ (j = 4 → a 171 j = 2)) : jt (jxX E d 305 1014 [some (.inr (.inr (.inl 3000))), some (.inr (.inr (.inl 0))), some (.inr (.inr (.inl 146))), some (.inl y3)] [] (jxSH, a, b)) (fun v _ _ => v = [.inl 1]) := by
  refine jt_eq (bq_law_1014 E d y3 a b) ?_
  refine jt_bif (Nat.ble_eq_true_of_le (by omega)) ?_
  have h281_ : jxw (y3 + 1) = y3 + 1 := jxw_id (by omega) (by omega)
  refine jt_grd (by omega) ?_
  refine jt_bif (Nat.ble_eq_true_of_le (by omega)) ?_
  have h282_ : jxw (y3 + 2) = y3 + 2 := jxw_id (by omega) (by omega)
  refine jt_grd (by omega) ?_
  refine jt_bif (Nat.ble_eq_true_of_le (by omega)) ?_
  have h283_ : jxw (y3 + 3) = y3 + 3 := jxw_id (by omega) (by omega)
  refine jt_grd (by omega) ?_
  refine jt_bif (Nat.ble_eq_true_of_le (by omega)) ?_
  have h284_ : jxw (y3 + 4) = y3 + 4 := jxw_id (by omega) (by omega)
  refine jt_grd (by omega) ?_
  refine jt_bI (sp_X11_price E d (jd_le hd rfl) (E.2 ((jxw (y3 + 1)).toNat)) (E.2 ((jxw (y3 + 2)).toNat)) (E.2 ((jxw (y3 + 3)).toNat)) (E.2 ((jxw (y3 + 4)).toNat)) a b hv) (fun r285_ a285_ b285_ h285_ => ?_)
  obtain ⟨rfl, rfl, hq285_0⟩ := h285_
  have h286_ := iv_get hv (k := 105) (j := 5) (l := 0) (u := 10) rfl
  refine jt_bif (Nat.ble_eq_true_of_le (by omega)) ?_
  refine jt_grd (by omega) ?_
  refine jt_bif (Nat.ble_eq_true_of_le (by omega)) ?_
  refine jt_grd (by omega) ?_
  refine jt_bif (Nat.ble_eq_true_of_le (by omega)) ?_
  refine jt_grd (by omega) ?_
  refine jt_bif (Nat.ble_eq_true_of_le (by omega)) ?_
  refine jt_grd (by omega) ?_
  refine jt_bI (sp_X12_price E d (jd_le hd rfl) (E.2 ((jxw (y3 + 1)).toNat)) (E.2 ((jxw (y3 + 2)).toNat)) (E.2 ((jxw (y3 + 3)).toNat)) (E.2 ((jxw (y3 + 4)).toNat)) a b hv) (fun r287_ a287_ b287_ h287_ => ?_)
  obtain ⟨rfl, rfl, hq287_0⟩ := h287_
  have h288_ := iv_get hv (k := 146) (j := 68) (l := 0) (u := 10) rfl
  refine jt_ite (fun c289_ => ?_) (fun c289_ => ?_)
  ·
    exact hnext a b 
  ·
    exact absurd (by omega : False) id
theorem lw_op1067 (E : jxE) (d : Nat) (hd : Nat.ble 60 (d + 1) = true) (hL : E.1 ≤ 6) (y3 : Int) (hy0 : y3 = 0) (hy1 : y3 + 6 ≤ E.1) (hnext : ∀ (a b : Nat → Nat → Int), jt (jxX E d 305 1189 [some (.inr (.inr (.inl 3000))), some (.inr (.inr (.inl 0))), some (.inr (.inr (.inl 146))), some (.inl y3)] [] (jxSH, a, b)) (fun v _ _ => v = [.inl 1])) (a b : Nat → Nat → Int) (hv : iv a) (hg0 : WFW a) (hg1 : SV a) (hg2 : OC a) (hg3 : FO a) (hg4 : FW a) (hg5 : FARR a) (hr0 : a 0 0 = 0) (hr1 : a 146 0 = 0) (hr2 : a 4 6 = 0) (hr3 : a 146 2 = 0) (hr4 : a 2 1 = 0) (hr5 : a 146 22 = 0) (hr6 : a 0 9 = 0) (hr7 : a 146 42 = 0) (hr8 : a 58 8 = 0) (hr9 : a 146 9 = 0) (hr10 : a 58 12 = 0) (hr11 : a 146 17 = 0) (hr12 : a 83 6 = 0) (hr13 : a 146 49 = 0) (hr14 : a 83 7 = 0) (hr15 : a 146 55 = 0) (hr16 : a 90 12 = 0) (hr17 : a 146 64 = 0) (hr18 : a 105 5 = 0) (hr19 : a 146 68 = 0) (hr20 : a 146 75 = 0) (hr21 : a 56 0 = 5) (hr22 : a 56 1 = 10) (hr23 : a 56 2 = 3) (hr24 : a 56 3 = 60) (hr25 : a 56 4 = 2) (hw142 : ∀ j : Nat, j < 8 → a 142 j = -1) (hw196 : ∀ j : Nat, j < 8 → a 196 j = -1) (hw143 : ∀ j : Nat, a 143 j = 0) (hw197 : ∀ j : Nat, a 197 j = 0) (hw144 : ∀ j : Nat, j < 8 → a 144 j = -1) (hw171 : ∀ j : Nat, (j = 0 → a 171 j = 5) ∧ (j = 1 → a 171 j = 10) ∧ (j = 2 → a 171 j = 3) ∧ (j = 3 → a 171 j = 60) ∧ (j = 4 → a 171 j = 2)) : jt (jxX E d 305 1067 [some (.inr (.inr (.inl 3000))), some (.inr (.inr (.inl 0))), some (.inr (.inr (.inl 146))), some (.inl y3)] [] (jxSH, a, b)) (fun v _ _ => v = [.inl 1]) := by
  refine jt_eq (bq_law_1067 E d y3 a b) ?_
  refine jt_bif (Nat.ble_eq_true_of_le (by omega)) ?_
  have h290_ : jxw (y3 + 1) = y3 + 1 := jxw_id (by omega) (by omega)
  refine jt_grd (by omega) ?_
  refine jt_bif (Nat.ble_eq_true_of_le (by omega)) ?_
  have h291_ : jxw (y3 + 2) = y3 + 2 := jxw_id (by omega) (by omega)
  refine jt_grd (by omega) ?_
  refine jt_bif (Nat.ble_eq_true_of_le (by omega)) ?_
  have h292_ : jxw (y3 + 3) = y3 + 3 := jxw_id (by omega) (by omega)
  refine jt_grd (by omega) ?_
  refine jt_bI (sp_X11_stamps E d (jd_le hd rfl) (E.2 ((jxw (y3 + 1)).toNat)) (E.2 ((jxw (y3 + 2)).toNat)) (E.2 ((jxw (y3 + 3)).toNat)) a b hv) (fun r293_ a293_ b293_ h293_ => ?_)
  obtain ⟨hv293_, hf293_, rfl, hq293_0, hq293_1⟩ := h293_
  refine jt_bif (Nat.ble_eq_true_of_le (by omega)) ?_
  refine jt_grd (by omega) ?_
  refine jt_bif (Nat.ble_eq_true_of_le (by omega)) ?_
  refine jt_grd (by omega) ?_
  refine jt_bif (Nat.ble_eq_true_of_le (by omega)) ?_
  refine jt_grd (by omega) ?_
  refine jt_bI (sp_X12_stamps E d (jd_le hd rfl) (E.2 ((jxw (y3 + 1)).toNat)) (E.2 ((jxw (y3 + 2)).toNat)) (E.2 ((jxw (y3 + 3)).toNat)) a293_ b hv293_ (SV_fr hg1 hf293_ (fun _ => rfl) (fun _ => rfl))) (fun r294_ a294_ b294_ h294_ => ?_)
  obtain ⟨hv294_, hf294_, rfl, hq294_0, hq294_1, hq294_2⟩ := h294_
  refine jt_ite (fun c295_ => ?_) (fun c295_ => ?_)
  ·
    exact hnext a294_ b 
  ·
    exact absurd (by omega : False) id
theorem lw_op1110 (E : jxE) (d : Nat) (hd : Nat.ble 60 (d + 1) = true) (hL : E.1 ≤ 6) (y3 : Int) (hy0 : y3 = 0) (hy1 : y3 + 6 ≤ E.1) (hnext : ∀ (a b : Nat → Nat → Int), jt (jxX E d 305 1189 [some (.inr (.inr (.inl 3000))), some (.inr (.inr (.inl 0))), some (.inr (.inr (.inl 146))), some (.inl y3)] [] (jxSH, a, b)) (fun v _ _ => v = [.inl 1])) (a b : Nat → Nat → Int) (hv : iv a) (hg0 : WFW a) (hg1 : SV a) (hg2 : OC a) (hg3 : FO a) (hg4 : FW a) (hg5 : FARR a) (hr0 : a 0 0 = 0) (hr1 : a 146 0 = 0) (hr2 : a 4 6 = 0) (hr3 : a 146 2 = 0) (hr4 : a 2 1 = 0) (hr5 : a 146 22 = 0) (hr6 : a 0 9 = 0) (hr7 : a 146 42 = 0) (hr8 : a 58 8 = 0) (hr9 : a 146 9 = 0) (hr10 : a 58 12 = 0) (hr11 : a 146 17 = 0) (hr12 : a 83 6 = 0) (hr13 : a 146 49 = 0) (hr14 : a 83 7 = 0) (hr15 : a 146 55 = 0) (hr16 : a 90 12 = 0) (hr17 : a 146 64 = 0) (hr18 : a 105 5 = 0) (hr19 : a 146 68 = 0) (hr20 : a 146 75 = 0) (hr21 : a 56 0 = 5) (hr22 : a 56 1 = 10) (hr23 : a 56 2 = 3) (hr24 : a 56 3 = 60) (hr25 : a 56 4 = 2) (hw142 : ∀ j : Nat, j < 8 → a 142 j = -1) (hw196 : ∀ j : Nat, j < 8 → a 196 j = -1) (hw143 : ∀ j : Nat, a 143 j = 0) (hw197 : ∀ j : Nat, a 197 j = 0) (hw144 : ∀ j : Nat, j < 8 → a 144 j = -1) (hw171 : ∀ j : Nat, (j = 0 → a 171 j = 5) ∧ (j = 1 → a 171 j = 10) ∧ (j = 2 → a 171 j = 3) ∧ (j = 3 → a 171 j = 60) ∧ (j = 4 → a 171 j = 2)) : jt (jxX E d 305 1110 [some (.inr (.inr (.inl 3000))), some (.inr (.inr (.inl 0))), some (.inr (.inr (.inl 146))), some (.inl y3)] [] (jxSH, a, b)) (fun v _ _ => v = [.inl 1]) := by
  refine jt_eq (bq_law_1110 E d y3 a b) ?_
  refine jt_bif (Nat.ble_eq_true_of_le (by omega)) ?_
  have h296_ : jxw (y3 + 1) = y3 + 1 := jxw_id (by omega) (by omega)
  refine jt_grd (by omega) ?_
  refine jt_bif (Nat.ble_eq_true_of_le (by omega)) ?_
  have h297_ : jxw (y3 + 2) = y3 + 2 := jxw_id (by omega) (by omega)
  refine jt_grd (by omega) ?_
  refine jt_bI (sp_X11_pay E d (jd_le hd rfl) (E.2 ((jxw (y3 + 1)).toNat)) (E.2 ((jxw (y3 + 2)).toNat)) a b hv) (fun r298_ a298_ b298_ h298_ => ?_)
  obtain ⟨hv298_, hf298_, hq298_0⟩ := h298_
  have h299_ := iv_get hv (k := 58) (j := 8) (l := 0) (u := 300) rfl
  refine jt_bif (Nat.ble_eq_true_of_le (by omega)) ?_
  refine jt_grd (by omega) ?_
  refine jt_bif (Nat.ble_eq_true_of_le (by omega)) ?_
  refine jt_grd (by omega) ?_
  refine jt_bI (sp_X12_pay E d (jd_le hd rfl) (E.2 ((jxw (y3 + 1)).toNat)) (E.2 ((jxw (y3 + 2)).toNat)) a298_ b298_ hv298_ (SV_fr hg1 hf298_ (fun _ => rfl) (fun _ => rfl))) (fun r300_ a300_ b300_ h300_ => ?_)
  obtain ⟨hv300_, hf300_, rfl, hq300_0, hq300_1⟩ := h300_
  have h301_ := iv_get hv298_ (k := 146) (j := 9) (l := 0) (u := 300) rfl
  have h302_ : a298_ 146 9 = a 146 9 := hf298_ 146 9 rfl
  have h303_ := iv_get hv (k := 146) (j := 9) (l := 0) (u := 300) rfl
  refine jt_ite (fun c304_ => ?_) (fun c304_ => ?_)
  ·
    exact hnext a300_ b298_ 
  ·
    exact absurd (by omega : False) id
theorem lw_op1143 (E : jxE) (d : Nat) (hd : Nat.ble 60 (d + 1) = true) (hL : E.1 ≤ 6) (y3 : Int) (hy0 : y3 = 0) (hy1 : y3 + 6 ≤ E.1) (hnext : ∀ (a b : Nat → Nat → Int), jt (jxX E d 305 1189 [some (.inr (.inr (.inl 3000))), some (.inr (.inr (.inl 0))), some (.inr (.inr (.inl 146))), some (.inl y3)] [] (jxSH, a, b)) (fun v _ _ => v = [.inl 1])) (a b : Nat → Nat → Int) (hv : iv a) (hg0 : WFW a) (hg1 : SV a) (hg2 : OC a) (hg3 : FO a) (hg4 : FW a) (hg5 : FARR a) (hr0 : a 0 0 = 0) (hr1 : a 146 0 = 0) (hr2 : a 4 6 = 0) (hr3 : a 146 2 = 0) (hr4 : a 2 1 = 0) (hr5 : a 146 22 = 0) (hr6 : a 0 9 = 0) (hr7 : a 146 42 = 0) (hr8 : a 58 8 = 0) (hr9 : a 146 9 = 0) (hr10 : a 58 12 = 0) (hr11 : a 146 17 = 0) (hr12 : a 83 6 = 0) (hr13 : a 146 49 = 0) (hr14 : a 83 7 = 0) (hr15 : a 146 55 = 0) (hr16 : a 90 12 = 0) (hr17 : a 146 64 = 0) (hr18 : a 105 5 = 0) (hr19 : a 146 68 = 0) (hr20 : a 146 75 = 0) (hr21 : a 56 0 = 5) (hr22 : a 56 1 = 10) (hr23 : a 56 2 = 3) (hr24 : a 56 3 = 60) (hr25 : a 56 4 = 2) (hw142 : ∀ j : Nat, j < 8 → a 142 j = -1) (hw196 : ∀ j : Nat, j < 8 → a 196 j = -1) (hw143 : ∀ j : Nat, a 143 j = 0) (hw197 : ∀ j : Nat, a 197 j = 0) (hw144 : ∀ j : Nat, j < 8 → a 144 j = -1) (hw171 : ∀ j : Nat, (j = 0 → a 171 j = 5) ∧ (j = 1 → a 171 j = 10) ∧ (j = 2 → a 171 j = 3) ∧ (j = 3 → a 171 j = 60) ∧ (j = 4 → a 171 j = 2)) : jt (jxX E d 305 1143 [some (.inr (.inr (.inl 3000))), some (.inr (.inr (.inl 0))), some (.inr (.inr (.inl 146))), some (.inl y3)] [] (jxSH, a, b)) (fun v _ _ => v = [.inl 1]) := by
  refine jt_eq (bq_law_1143 E d y3 a b) ?_
  refine jt_bif (Nat.ble_eq_true_of_le (by omega)) ?_
  have h305_ : jxw (y3 + 1) = y3 + 1 := jxw_id (by omega) (by omega)
  refine jt_grd (by omega) ?_
  refine jt_eI (eq_X11_paid E d (jd_le hd rfl) (E.2 ((jxw (y3 + 1)).toNat)) a b) ?_
  refine jt_bif (Nat.ble_eq_true_of_le (by omega)) ?_
  refine jt_grd (by omega) ?_
  refine jt_eI (eq_X12_paid E d (jd_le hd rfl) (E.2 ((jxw (y3 + 1)).toNat)) a b) ?_
  have h306_ := f_X11_paid_eq a b (E.2 ((jxw (y3 + 1)).toNat))
  have h307_ := f_X1_wentOf_eq a b (E.2 ((jxw (y3 + 1)).toNat))
  have h308_ := f_X11_entry_r144_eq a b 8 (E.2 ((jxw (y3 + 1)).toNat))
  have h309_ := hw144 ((E.2 ((jxw (y3 + 1)).toNat)).toNat)
  have h310_ := f_X12_paid_eq a b (E.2 ((jxw (y3 + 1)).toNat))
  have h311_ := f_X12_in_eq a b (E.2 ((jxw (y3 + 1)).toNat)) 0 7
  refine jt_ite (fun c312_ => ?_) (fun c312_ => ?_)
  ·
    exact hnext a b 
  ·
    exact absurd (by omega : False) id
theorem lw_op1166 (E : jxE) (d : Nat) (hd : Nat.ble 60 (d + 1) = true) (hL : E.1 ≤ 6) (y3 : Int) (hy0 : y3 = 0) (hy1 : y3 + 6 ≤ E.1) (hnext : ∀ (a b : Nat → Nat → Int), jt (jxX E d 305 1189 [some (.inr (.inr (.inl 3000))), some (.inr (.inr (.inl 0))), some (.inr (.inr (.inl 146))), some (.inl y3)] [] (jxSH, a, b)) (fun v _ _ => v = [.inl 1])) (a b : Nat → Nat → Int) (hv : iv a) (hg0 : WFW a) (hg1 : SV a) (hg2 : OC a) (hg3 : FO a) (hg4 : FW a) (hg5 : FARR a) (hr0 : a 0 0 = 0) (hr1 : a 146 0 = 0) (hr2 : a 4 6 = 0) (hr3 : a 146 2 = 0) (hr4 : a 2 1 = 0) (hr5 : a 146 22 = 0) (hr6 : a 0 9 = 0) (hr7 : a 146 42 = 0) (hr8 : a 58 8 = 0) (hr9 : a 146 9 = 0) (hr10 : a 58 12 = 0) (hr11 : a 146 17 = 0) (hr12 : a 83 6 = 0) (hr13 : a 146 49 = 0) (hr14 : a 83 7 = 0) (hr15 : a 146 55 = 0) (hr16 : a 90 12 = 0) (hr17 : a 146 64 = 0) (hr18 : a 105 5 = 0) (hr19 : a 146 68 = 0) (hr20 : a 146 75 = 0) (hr21 : a 56 0 = 5) (hr22 : a 56 1 = 10) (hr23 : a 56 2 = 3) (hr24 : a 56 3 = 60) (hr25 : a 56 4 = 2) (hw142 : ∀ j : Nat, j < 8 → a 142 j = -1) (hw196 : ∀ j : Nat, j < 8 → a 196 j = -1) (hw143 : ∀ j : Nat, a 143 j = 0) (hw197 : ∀ j : Nat, a 197 j = 0) (hw144 : ∀ j : Nat, j < 8 → a 144 j = -1) (hw171 : ∀ j : Nat, (j = 0 → a 171 j = 5) ∧ (j = 1 → a 171 j = 10) ∧ (j = 2 → a 171 j = 3) ∧ (j = 3 → a 171 j = 60) ∧ (j = 4 → a 171 j = 2)) : jt (jxX E d 305 1166 [some (.inr (.inr (.inl 3000))), some (.inr (.inr (.inl 0))), some (.inr (.inr (.inl 146))), some (.inl y3)] [] (jxSH, a, b)) (fun v _ _ => v = [.inl 1]) := by
  refine jt_eq (bq_law_1166 E d y3 a b) ?_
  refine jt_bif (Nat.ble_eq_true_of_le (by omega)) ?_
  have h313_ : jxw (y3 + 1) = y3 + 1 := jxw_id (by omega) (by omega)
  refine jt_grd (by omega) ?_
  refine jt_bI (sp_X11_count E d (jd_le hd rfl) (E.2 ((jxw (y3 + 1)).toNat)) a b hv) (fun r314_ a314_ b314_ h314_ => ?_)
  obtain ⟨rfl, rfl, hq314_0, hq314_1, hq314_2, hq314_3, hq314_4, hq314_5, hq314_6, hq314_7, hq314_8, hq314_9, hq314_10, hq314_11, hq314_12, hq314_13, hq314_14, hq314_15, hq314_16, hq314_17⟩ := h314_
  have h315_ := iv_get hv (k := 0) (j := 0) (l := 0) (u := 1999) rfl
  have h316_ := iv_get hv (k := 4) (j := 6) (l := 0) (u := 40) rfl
  have h317_ := iv_get hv (k := 58) (j := 8) (l := 0) (u := 300) rfl
  have h318_ := iv_get hv (k := 58) (j := 12) (l := 0) (u := 600) rfl
  have h319_ := iv_get hv (k := 83) (j := 6) (l := 0) (u := 20) rfl
  have h320_ := iv_get hv (k := 105) (j := 5) (l := 0) (u := 10) rfl
  have h321_ := iv_get hv (k := 2) (j := 1) (l := 0) (u := 200) rfl
  have h322_ := iv_get hv (k := 0) (j := 9) (l := 0) (u := 8) rfl
  refine jt_bif (Nat.ble_eq_true_of_le (by omega)) ?_
  refine jt_grd (by omega) ?_
  refine jt_bI (sp_X12_count E d (jd_le hd rfl) (E.2 ((jxw (y3 + 1)).toNat)) a b hv) (fun r323_ a323_ b323_ h323_ => ?_)
  obtain ⟨rfl, rfl, hq323_0, hq323_1, hq323_2, hq323_3, hq323_4, hq323_5, hq323_6, hq323_7, hq323_8, hq323_9, hq323_10, hq323_11, hq323_12, hq323_13⟩ := h323_
  have h324_ := iv_get hv (k := 146) (j := 0) (l := 0) (u := 1999) rfl
  have h325_ := iv_get hv (k := 146) (j := 2) (l := 0) (u := 40) rfl
  have h326_ := iv_get hv (k := 146) (j := 9) (l := 0) (u := 300) rfl
  have h327_ := iv_get hv (k := 146) (j := 17) (l := 0) (u := 600) rfl
  have h328_ := iv_get hv (k := 146) (j := 49) (l := 0) (u := 20) rfl
  have h329_ := iv_get hv (k := 146) (j := 68) (l := 0) (u := 10) rfl
  have h330_ := iv_get hv (k := 146) (j := 22) (l := 0) (u := 200) rfl
  have h331_ := iv_get hv (k := 146) (j := 42) (l := 0) (u := 8) rfl
  have hcl323 := count_law hq314_0 hq314_1 hq314_2 hq314_3 hq314_4 hq314_5 hq314_6 hq314_7 hq314_8 hq314_9 hq314_10 hq314_11 hq314_12 hq314_13 hq314_14 hq314_15 hq314_16 hq314_17 hq323_0 hq323_1 hq323_2 hq323_3 hq323_4 hq323_5 hq323_6 hq323_7 hq323_8 hq323_9 hq323_10 hq323_11 hq323_12 hq323_13 (hr0.trans hr1.symm) (hr2.trans hr3.symm) (hr8.trans hr9.symm) (hr10.trans hr11.symm) (hr12.trans hr13.symm) (hr14.trans hr15.symm) (hr18.trans hr19.symm) (hr4.trans hr5.symm) (hr6.trans hr7.symm) hr2 hr3 hr21 hr22 hr23 hr24 hr25 hw171 hw143 hw197 hw142 hw196
  clear hq314_0 hq314_1 hq314_2 hq314_3 hq314_4 hq314_5 hq314_6 hq314_7 hq314_8 hq314_9 hq314_10 hq314_11 hq314_12 hq314_13 hq314_14 hq314_15 hq314_16 hq314_17 hq323_0 hq323_1 hq323_2 hq323_3 hq323_4 hq323_5 hq323_6 hq323_7 hq323_8 hq323_9 hq323_10 hq323_11 hq323_12 hq323_13
  refine jt_ite (fun c332_ => ?_) (fun c332_ => ?_)
  ·
    exact hnext a b 
  ·
    exact absurd (by omega : False) id
theorem lw_18 (E : jxE) (d : Nat) (hd : Nat.ble 60 (d + 1) = true) (hL : E.1 ≤ 6) (y3 : Int) (hy0 : y3 = 0) (a b : Nat → Nat → Int) (hv : iv a) (hg0 : WFW a) (hg1 : SV a) (hg2 : OC a) (hg3 : FO a) (hg4 : FW a) (hg5 : FARR a) (hr0 : a 0 0 = 0) (hr1 : a 146 0 = 0) (hr2 : a 4 6 = 0) (hr3 : a 146 2 = 0) (hr4 : a 2 1 = 0) (hr5 : a 146 22 = 0) (hr6 : a 0 9 = 0) (hr7 : a 146 42 = 0) (hr8 : a 58 8 = 0) (hr9 : a 146 9 = 0) (hr10 : a 58 12 = 0) (hr11 : a 146 17 = 0) (hr12 : a 83 6 = 0) (hr13 : a 146 49 = 0) (hr14 : a 83 7 = 0) (hr15 : a 146 55 = 0) (hr16 : a 90 12 = 0) (hr17 : a 146 64 = 0) (hr18 : a 105 5 = 0) (hr19 : a 146 68 = 0) (hr20 : a 146 75 = 0) (hr21 : a 56 0 = 5) (hr22 : a 56 1 = 10) (hr23 : a 56 2 = 3) (hr24 : a 56 3 = 60) (hr25 : a 56 4 = 2) (hw142 : ∀ j : Nat, j < 8 → a 142 j = -1) (hw196 : ∀ j : Nat, j < 8 → a 196 j = -1) (hw143 : ∀ j : Nat, a 143 j = 0) (hw197 : ∀ j : Nat, a 197 j = 0) (hw144 : ∀ j : Nat, j < 8 → a 144 j = -1) (hw171 : ∀ j : Nat, (j = 0 → a 171 j = 5) ∧ (j = 1 → a 171 j = 10) ∧ (j = 2 → a 171 j = 3) ∧ (j = 3 → a 171 j = 60) ∧ (j = 4 → a 171 j = 2)) : jt (jxX E d 305 18 [some (.inr (.inr (.inl 3000))), some (.inr (.inr (.inl 0))), some (.inr (.inr (.inl 146))), some (.inl y3)] [] (jxSH, a, b)) (fun v _ _ => v = [.inl 1]) := by
  refine jt_eq (bq_law_18 E d y3 a b) ?_
  have e6 : jxw ((E.1 : Int) - 6) = (E.1 : Int) - 6 := jxw_id (by omega) (by omega)
  have hnext : ∀ (a b : Nat → Nat → Int), jt (jxX E d 305 1189 [some (.inr (.inr (.inl 3000))), some (.inr (.inr (.inl 0))), some (.inr (.inr (.inl 146))), some (.inl y3)] [] (jxSH, a, b)) (fun v _ _ => v = [.inl 1]) := fun a b => by
    refine jt_eq (bq_law_1189 E d y3 a b) ?_
    have e : jxw (y3 + 6) = 6 := by rw [hy0]; decide +kernel
    rw [e]
    refine jt_eq (bq_law_18 E d 6 a b) ?_
    refine jt_bif (Nat.ble_eq_true_of_le (by omega)) ?_
    exact jt_ite (fun c1 => ⟨_, _, _, rfl, rfl⟩) (fun c1 => absurd (by omega : False) id)
  refine jt_bif (Nat.ble_eq_true_of_le (by omega)) ?_
  refine jt_ite (fun c1 => ?_) (fun c1 => ?_)
  · exact ⟨_, _, _, rfl, rfl⟩
  ·
    refine jt_bif (Nat.ble_eq_true_of_le (by omega)) ?_
    refine jt_grd (by omega) ?_
    have h333_ := jxand_r (E.2 (y3.toNat)) 63 (by decide) (by decide)
    refine jt_ite (fun c334_ => ?_) (fun c334_ => ?_)
    ·
      exact hnext a b 
    ·
      refine jt_ite (fun c335_ => ?_) (fun c335_ => ?_)
      ·
        exact lw_op180 E d hd hL y3 hy0 (by omega) hnext a b hv hg0 hg1 hg2 hg3 hg4 hg5 hr0 hr1 hr2 hr3 hr4 hr5 hr6 hr7 hr8 hr9 hr10 hr11 hr12 hr13 hr14 hr15 hr16 hr17 hr18 hr19 hr20 hr21 hr22 hr23 hr24 hr25 hw142 hw196 hw143 hw197 hw144 hw171
      ·
        refine jt_ite (fun c336_ => ?_) (fun c336_ => ?_)
        ·
          exact lw_op203 E d hd hL y3 hy0 (by omega) hnext a b hv hg0 hg1 hg2 hg3 hg4 hg5 hr0 hr1 hr2 hr3 hr4 hr5 hr6 hr7 hr8 hr9 hr10 hr11 hr12 hr13 hr14 hr15 hr16 hr17 hr18 hr19 hr20 hr21 hr22 hr23 hr24 hr25 hw142 hw196 hw143 hw197 hw144 hw171
        ·
          refine jt_ite (fun c337_ => ?_) (fun c337_ => ?_)
          ·
            exact lw_op246 E d hd hL y3 hy0 (by omega) hnext a b hv hg0 hg1 hg2 hg3 hg4 hg5 hr0 hr1 hr2 hr3 hr4 hr5 hr6 hr7 hr8 hr9 hr10 hr11 hr12 hr13 hr14 hr15 hr16 hr17 hr18 hr19 hr20 hr21 hr22 hr23 hr24 hr25 hw142 hw196 hw143 hw197 hw144 hw171
          ·
            refine jt_ite (fun c338_ => ?_) (fun c338_ => ?_)
            ·
              exact lw_op289 E d hd hL y3 hy0 (by omega) hnext a b hv hg0 hg1 hg2 hg3 hg4 hg5 hr0 hr1 hr2 hr3 hr4 hr5 hr6 hr7 hr8 hr9 hr10 hr11 hr12 hr13 hr14 hr15 hr16 hr17 hr18 hr19 hr20 hr21 hr22 hr23 hr24 hr25 hw142 hw196 hw143 hw197 hw144 hw171
            ·
              refine jt_ite (fun c339_ => ?_) (fun c339_ => ?_)
              ·
                exact lw_op312 E d hd hL y3 hy0 (by omega) hnext a b hv hg0 hg1 hg2 hg3 hg4 hg5 hr0 hr1 hr2 hr3 hr4 hr5 hr6 hr7 hr8 hr9 hr10 hr11 hr12 hr13 hr14 hr15 hr16 hr17 hr18 hr19 hr20 hr21 hr22 hr23 hr24 hr25 hw142 hw196 hw143 hw197 hw144 hw171
              ·
                refine jt_ite (fun c340_ => ?_) (fun c340_ => ?_)
                ·
                  exact lw_op375 E d hd hL y3 hy0 (by omega) hnext a b hv hg0 hg1 hg2 hg3 hg4 hg5 hr0 hr1 hr2 hr3 hr4 hr5 hr6 hr7 hr8 hr9 hr10 hr11 hr12 hr13 hr14 hr15 hr16 hr17 hr18 hr19 hr20 hr21 hr22 hr23 hr24 hr25 hw142 hw196 hw143 hw197 hw144 hw171
                ·
                  refine jt_ite (fun c341_ => ?_) (fun c341_ => ?_)
                  ·
                    exact lw_op398 E d hd hL y3 hy0 (by omega) hnext a b hv hg0 hg1 hg2 hg3 hg4 hg5 hr0 hr1 hr2 hr3 hr4 hr5 hr6 hr7 hr8 hr9 hr10 hr11 hr12 hr13 hr14 hr15 hr16 hr17 hr18 hr19 hr20 hr21 hr22 hr23 hr24 hr25 hw142 hw196 hw143 hw197 hw144 hw171
                  ·
                    refine jt_ite (fun c342_ => ?_) (fun c342_ => ?_)
                    ·
                      exact lw_op421 E d hd hL y3 hy0 (by omega) hnext a b hv hg0 hg1 hg2 hg3 hg4 hg5 hr0 hr1 hr2 hr3 hr4 hr5 hr6 hr7 hr8 hr9 hr10 hr11 hr12 hr13 hr14 hr15 hr16 hr17 hr18 hr19 hr20 hr21 hr22 hr23 hr24 hr25 hw142 hw196 hw143 hw197 hw144 hw171
                    ·
                      refine jt_ite (fun c343_ => ?_) (fun c343_ => ?_)
                      ·
                        exact lw_op454 E d hd hL y3 hy0 (by omega) hnext a b hv hg0 hg1 hg2 hg3 hg4 hg5 hr0 hr1 hr2 hr3 hr4 hr5 hr6 hr7 hr8 hr9 hr10 hr11 hr12 hr13 hr14 hr15 hr16 hr17 hr18 hr19 hr20 hr21 hr22 hr23 hr24 hr25 hw142 hw196 hw143 hw197 hw144 hw171
                      ·
                        refine jt_ite (fun c344_ => ?_) (fun c344_ => ?_)
                        ·
                          exact lw_op467 E d hd hL y3 hy0 (by omega) hnext a b hv hg0 hg1 hg2 hg3 hg4 hg5 hr0 hr1 hr2 hr3 hr4 hr5 hr6 hr7 hr8 hr9 hr10 hr11 hr12 hr13 hr14 hr15 hr16 hr17 hr18 hr19 hr20 hr21 hr22 hr23 hr24 hr25 hw142 hw196 hw143 hw197 hw144 hw171
                        ·
                          refine jt_ite (fun c345_ => ?_) (fun c345_ => ?_)
                          ·
                            exact lw_op490 E d hd hL y3 hy0 (by omega) hnext a b hv hg0 hg1 hg2 hg3 hg4 hg5 hr0 hr1 hr2 hr3 hr4 hr5 hr6 hr7 hr8 hr9 hr10 hr11 hr12 hr13 hr14 hr15 hr16 hr17 hr18 hr19 hr20 hr21 hr22 hr23 hr24 hr25 hw142 hw196 hw143 hw197 hw144 hw171
                          ·
                            refine jt_ite (fun c346_ => ?_) (fun c346_ => ?_)
                            ·
                              exact lw_op523 E d hd hL y3 hy0 (by omega) hnext a b hv hg0 hg1 hg2 hg3 hg4 hg5 hr0 hr1 hr2 hr3 hr4 hr5 hr6 hr7 hr8 hr9 hr10 hr11 hr12 hr13 hr14 hr15 hr16 hr17 hr18 hr19 hr20 hr21 hr22 hr23 hr24 hr25 hw142 hw196 hw143 hw197 hw144 hw171
                            ·
                              refine jt_ite (fun c347_ => ?_) (fun c347_ => ?_)
                              ·
                                exact lw_op546 E d hd hL y3 hy0 (by omega) hnext a b hv hg0 hg1 hg2 hg3 hg4 hg5 hr0 hr1 hr2 hr3 hr4 hr5 hr6 hr7 hr8 hr9 hr10 hr11 hr12 hr13 hr14 hr15 hr16 hr17 hr18 hr19 hr20 hr21 hr22 hr23 hr24 hr25 hw142 hw196 hw143 hw197 hw144 hw171
                              ·
                                refine jt_ite (fun c348_ => ?_) (fun c348_ => ?_)
                                ·
                                  exact lw_op559 E d hd hL y3 hy0 (by omega) hnext a b hv hg0 hg1 hg2 hg3 hg4 hg5 hr0 hr1 hr2 hr3 hr4 hr5 hr6 hr7 hr8 hr9 hr10 hr11 hr12 hr13 hr14 hr15 hr16 hr17 hr18 hr19 hr20 hr21 hr22 hr23 hr24 hr25 hw142 hw196 hw143 hw197 hw144 hw171
                                ·
                                  refine jt_ite (fun c349_ => ?_) (fun c349_ => ?_)
                                  ·
                                    exact lw_op592 E d hd hL y3 hy0 (by omega) hnext a b hv hg0 hg1 hg2 hg3 hg4 hg5 hr0 hr1 hr2 hr3 hr4 hr5 hr6 hr7 hr8 hr9 hr10 hr11 hr12 hr13 hr14 hr15 hr16 hr17 hr18 hr19 hr20 hr21 hr22 hr23 hr24 hr25 hw142 hw196 hw143 hw197 hw144 hw171
                                  ·
                                    refine jt_ite (fun c350_ => ?_) (fun c350_ => ?_)
                                    ·
                                      exact lw_op615 E d hd hL y3 hy0 (by omega) hnext a b hv hg0 hg1 hg2 hg3 hg4 hg5 hr0 hr1 hr2 hr3 hr4 hr5 hr6 hr7 hr8 hr9 hr10 hr11 hr12 hr13 hr14 hr15 hr16 hr17 hr18 hr19 hr20 hr21 hr22 hr23 hr24 hr25 hw142 hw196 hw143 hw197 hw144 hw171
                                    ·
                                      refine jt_ite (fun c351_ => ?_) (fun c351_ => ?_)
                                      ·
                                        exact lw_op648 E d hd hL y3 hy0 (by omega) hnext a b hv hg0 hg1 hg2 hg3 hg4 hg5 hr0 hr1 hr2 hr3 hr4 hr5 hr6 hr7 hr8 hr9 hr10 hr11 hr12 hr13 hr14 hr15 hr16 hr17 hr18 hr19 hr20 hr21 hr22 hr23 hr24 hr25 hw142 hw196 hw143 hw197 hw144 hw171
                                      ·
                                        refine jt_ite (fun c352_ => ?_) (fun c352_ => ?_)
                                        ·
                                          exact lw_op691 E d hd hL y3 hy0 (by omega) hnext a b hv hg0 hg1 hg2 hg3 hg4 hg5 hr0 hr1 hr2 hr3 hr4 hr5 hr6 hr7 hr8 hr9 hr10 hr11 hr12 hr13 hr14 hr15 hr16 hr17 hr18 hr19 hr20 hr21 hr22 hr23 hr24 hr25 hw142 hw196 hw143 hw197 hw144 hw171
                                        ·
                                          refine jt_ite (fun c353_ => ?_) (fun c353_ => ?_)
                                          ·
                                            exact lw_op724 E d hd hL y3 hy0 (by omega) hnext a b hv hg0 hg1 hg2 hg3 hg4 hg5 hr0 hr1 hr2 hr3 hr4 hr5 hr6 hr7 hr8 hr9 hr10 hr11 hr12 hr13 hr14 hr15 hr16 hr17 hr18 hr19 hr20 hr21 hr22 hr23 hr24 hr25 hw142 hw196 hw143 hw197 hw144 hw171
                                          ·
                                            refine jt_ite (fun c354_ => ?_) (fun c354_ => ?_)
                                            ·
                                              exact lw_op747 E d hd hL y3 hy0 (by omega) hnext a b hv hg0 hg1 hg2 hg3 hg4 hg5 hr0 hr1 hr2 hr3 hr4 hr5 hr6 hr7 hr8 hr9 hr10 hr11 hr12 hr13 hr14 hr15 hr16 hr17 hr18 hr19 hr20 hr21 hr22 hr23 hr24 hr25 hw142 hw196 hw143 hw197 hw144 hw171
                                            ·
                                              refine jt_ite (fun c355_ => ?_) (fun c355_ => ?_)
                                              ·
                                                exact lw_op790 E d hd hL y3 hy0 (by omega) hnext a b hv hg0 hg1 hg2 hg3 hg4 hg5 hr0 hr1 hr2 hr3 hr4 hr5 hr6 hr7 hr8 hr9 hr10 hr11 hr12 hr13 hr14 hr15 hr16 hr17 hr18 hr19 hr20 hr21 hr22 hr23 hr24 hr25 hw142 hw196 hw143 hw197 hw144 hw171
                                              ·
                                                refine jt_ite (fun c356_ => ?_) (fun c356_ => ?_)
                                                ·
                                                  exact lw_op833 E d hd hL y3 hy0 (by omega) hnext a b hv hg0 hg1 hg2 hg3 hg4 hg5 hr0 hr1 hr2 hr3 hr4 hr5 hr6 hr7 hr8 hr9 hr10 hr11 hr12 hr13 hr14 hr15 hr16 hr17 hr18 hr19 hr20 hr21 hr22 hr23 hr24 hr25 hw142 hw196 hw143 hw197 hw144 hw171
                                                ·
                                                  refine jt_ite (fun c357_ => ?_) (fun c357_ => ?_)
                                                  ·
                                                    exact lw_op856 E d hd hL y3 hy0 (by omega) hnext a b hv hg0 hg1 hg2 hg3 hg4 hg5 hr0 hr1 hr2 hr3 hr4 hr5 hr6 hr7 hr8 hr9 hr10 hr11 hr12 hr13 hr14 hr15 hr16 hr17 hr18 hr19 hr20 hr21 hr22 hr23 hr24 hr25 hw142 hw196 hw143 hw197 hw144 hw171
                                                  ·
                                                    refine jt_ite (fun c358_ => ?_) (fun c358_ => ?_)
                                                    ·
                                                      exact lw_op869 E d hd hL y3 hy0 (by omega) hnext a b hv hg0 hg1 hg2 hg3 hg4 hg5 hr0 hr1 hr2 hr3 hr4 hr5 hr6 hr7 hr8 hr9 hr10 hr11 hr12 hr13 hr14 hr15 hr16 hr17 hr18 hr19 hr20 hr21 hr22 hr23 hr24 hr25 hw142 hw196 hw143 hw197 hw144 hw171
                                                    ·
                                                      refine jt_ite (fun c359_ => ?_) (fun c359_ => ?_)
                                                      ·
                                                        exact lw_op902 E d hd hL y3 hy0 (by omega) hnext a b hv hg0 hg1 hg2 hg3 hg4 hg5 hr0 hr1 hr2 hr3 hr4 hr5 hr6 hr7 hr8 hr9 hr10 hr11 hr12 hr13 hr14 hr15 hr16 hr17 hr18 hr19 hr20 hr21 hr22 hr23 hr24 hr25 hw142 hw196 hw143 hw197 hw144 hw171
                                                      ·
                                                        refine jt_ite (fun c360_ => ?_) (fun c360_ => ?_)
                                                        ·
                                                          exact lw_op925 E d hd hL y3 hy0 (by omega) hnext a b hv hg0 hg1 hg2 hg3 hg4 hg5 hr0 hr1 hr2 hr3 hr4 hr5 hr6 hr7 hr8 hr9 hr10 hr11 hr12 hr13 hr14 hr15 hr16 hr17 hr18 hr19 hr20 hr21 hr22 hr23 hr24 hr25 hw142 hw196 hw143 hw197 hw144 hw171
                                                        ·
                                                          refine jt_ite (fun c361_ => ?_) (fun c361_ => ?_)
                                                          ·
                                                            exact lw_op958 E d hd hL y3 hy0 (by omega) hnext a b hv hg0 hg1 hg2 hg3 hg4 hg5 hr0 hr1 hr2 hr3 hr4 hr5 hr6 hr7 hr8 hr9 hr10 hr11 hr12 hr13 hr14 hr15 hr16 hr17 hr18 hr19 hr20 hr21 hr22 hr23 hr24 hr25 hw142 hw196 hw143 hw197 hw144 hw171
                                                          ·
                                                            refine jt_ite (fun c362_ => ?_) (fun c362_ => ?_)
                                                            ·
                                                              exact lw_op991 E d hd hL y3 hy0 (by omega) hnext a b hv hg0 hg1 hg2 hg3 hg4 hg5 hr0 hr1 hr2 hr3 hr4 hr5 hr6 hr7 hr8 hr9 hr10 hr11 hr12 hr13 hr14 hr15 hr16 hr17 hr18 hr19 hr20 hr21 hr22 hr23 hr24 hr25 hw142 hw196 hw143 hw197 hw144 hw171
                                                            ·
                                                              refine jt_ite (fun c363_ => ?_) (fun c363_ => ?_)
                                                              ·
                                                                exact lw_op1014 E d hd hL y3 hy0 (by omega) hnext a b hv hg0 hg1 hg2 hg3 hg4 hg5 hr0 hr1 hr2 hr3 hr4 hr5 hr6 hr7 hr8 hr9 hr10 hr11 hr12 hr13 hr14 hr15 hr16 hr17 hr18 hr19 hr20 hr21 hr22 hr23 hr24 hr25 hw142 hw196 hw143 hw197 hw144 hw171
                                                              ·
                                                                refine jt_ite (fun c364_ => ?_) (fun c364_ => ?_)
                                                                ·
                                                                  exact lw_op1067 E d hd hL y3 hy0 (by omega) hnext a b hv hg0 hg1 hg2 hg3 hg4 hg5 hr0 hr1 hr2 hr3 hr4 hr5 hr6 hr7 hr8 hr9 hr10 hr11 hr12 hr13 hr14 hr15 hr16 hr17 hr18 hr19 hr20 hr21 hr22 hr23 hr24 hr25 hw142 hw196 hw143 hw197 hw144 hw171
                                                                ·
                                                                  refine jt_ite (fun c365_ => ?_) (fun c365_ => ?_)
                                                                  ·
                                                                    exact lw_op1110 E d hd hL y3 hy0 (by omega) hnext a b hv hg0 hg1 hg2 hg3 hg4 hg5 hr0 hr1 hr2 hr3 hr4 hr5 hr6 hr7 hr8 hr9 hr10 hr11 hr12 hr13 hr14 hr15 hr16 hr17 hr18 hr19 hr20 hr21 hr22 hr23 hr24 hr25 hw142 hw196 hw143 hw197 hw144 hw171
                                                                  ·
                                                                    refine jt_ite (fun c366_ => ?_) (fun c366_ => ?_)
                                                                    ·
                                                                      exact lw_op1143 E d hd hL y3 hy0 (by omega) hnext a b hv hg0 hg1 hg2 hg3 hg4 hg5 hr0 hr1 hr2 hr3 hr4 hr5 hr6 hr7 hr8 hr9 hr10 hr11 hr12 hr13 hr14 hr15 hr16 hr17 hr18 hr19 hr20 hr21 hr22 hr23 hr24 hr25 hw142 hw196 hw143 hw197 hw144 hw171
                                                                    ·
                                                                      refine jt_ite (fun c367_ => ?_) (fun c367_ => ?_)
                                                                      ·
                                                                        exact lw_op1166 E d hd hL y3 hy0 (by omega) hnext a b hv hg0 hg1 hg2 hg3 hg4 hg5 hr0 hr1 hr2 hr3 hr4 hr5 hr6 hr7 hr8 hr9 hr10 hr11 hr12 hr13 hr14 hr15 hr16 hr17 hr18 hr19 hr20 hr21 hr22 hr23 hr24 hr25 hw142 hw196 hw143 hw197 hw144 hw171
                                                                      ·
                                                                        exact absurd (by omega : False) id
