theorem jt_bif {c : Bool} {X Y : Option jxR} {Q : List jxV → (Nat → Nat → Int) → (Nat → Nat → Int) → Prop} (hc : c = true) (h : jt X Q) : jt (bif c then X else Y) Q := by
  rw [hc]; exact h
theorem lw_op180 (E : jxE) (d : Nat) (hd : Nat.ble 60 (d + 1) = true) (hL : E.1 ≤ 3072) (y3 : Int) (hy0 : 0 ≤ y3) (hy1 : y3 + 6 ≤ E.1) (hnext : ∀ (a b : Nat → Nat → Int) (hv : iv a) (hg0 : WFW a) (hg1 : SV a) (hg2 : OC a) (hg3 : FO a) (hg4 : FW a) (hg5 : FARR a), jt (jxX E d 305 1189 [some (.inr (.inr (.inl 3000))), some (.inr (.inr (.inl 0))), some (.inr (.inr (.inl 146))), some (.inl y3)] [] (jxSH, a, b)) (fun v _ _ => v = [.inl 1])) (a b : Nat → Nat → Int) (hv : iv a) (hg0 : WFW a) (hg1 : SV a) (hg2 : OC a) (hg3 : FO a) (hg4 : FW a) (hg5 : FARR a) : jt (jxX E d 305 180 [some (.inr (.inr (.inl 3000))), some (.inr (.inr (.inl 0))), some (.inr (.inr (.inl 146))), some (.inl y3)] [] (jxSH, a, b)) (fun v _ _ => v = [.inl 1]) := by
  refine jt_eq (bq_law_180 E d y3 a b) ?_
  refine jt_bif (Nat.ble_eq_true_of_le (by omega)) ?_
  have h1_ : jxw (y3 + 1) = y3 + 1 := jxw_id (by omega) (by omega)
  refine jt_grd (by omega) ?_
  refine jt_bI (sp_X11_clock E d (jd_le hd rfl) (E.2 ((jxw (y3 + 1)).toNat)) a b hv) (fun r2_ a2_ b2_ h2_ => ?_)
  obtain ⟨hv2_, hf2_, rfl, hq2_0, hq2_1⟩ := h2_
  have h3_ := iv_get hv (k := 0) (j := 0) (l := 0) (u := 1999) rfl
  have h4_ := iv_get hv2_ (k := 0) (j := 0) (l := 0) (u := 1999) rfl
  refine jt_eq (bq_law_190 E d y3 a2_ b) ?_
  refine jt_bif (Nat.ble_eq_true_of_le (by omega)) ?_
  refine jt_grd (by omega) ?_
  refine jt_bI (sp_X12_clock E d (jd_le hd rfl) (E.2 ((jxw (y3 + 1)).toNat)) a2_ b hv2_) (fun r5_ a5_ b5_ h5_ => ?_)
  obtain ⟨hv5_, hf5_, rfl, hq5_0, hq5_1⟩ := h5_
  have h6_ := iv_get hv2_ (k := 146) (j := 0) (l := 0) (u := 1999) rfl
  have h7_ : a2_ 146 0 = a 146 0 := hf2_ 146 0 rfl
  have h8_ := iv_get hv (k := 146) (j := 0) (l := 0) (u := 1999) rfl
  have h9_ := iv_get hv5_ (k := 146) (j := 0) (l := 0) (u := 1999) rfl
  exact hnext a5_ b hv5_ (WFW_fr (WFW_fr hg0 hf2_ (fun _ => rfl) (fun _ => rfl)) hf5_ (fun _ => rfl) (fun _ => rfl)) (SV_fr (SV_fr hg1 hf2_ (fun _ => rfl) (fun _ => rfl)) hf5_ (fun _ => rfl) (fun _ => rfl)) (OC_fr (OC_fr hg2 hf2_ rfl rfl (fun _ => rfl) (fun _ => rfl) (fun _ => rfl) (fun _ => rfl) (fun _ => rfl)) hf5_ rfl rfl (fun _ => rfl) (fun _ => rfl) (fun _ => rfl) (fun _ => rfl) (fun _ => rfl)) (FO_fr (FO_fr hg3 hf2_ rfl rfl (fun _ => rfl)) hf5_ rfl rfl (fun _ => rfl)) (FW_fr (FW_fr hg4 hf2_ rfl (fun _ => rfl)) hf5_ rfl (fun _ => rfl)) (FARR_fr (FARR_fr hg5 hf2_ (fun _ => rfl) (fun _ => rfl)) hf5_ (fun _ => rfl) (fun _ => rfl))
theorem lw_op203 (E : jxE) (d : Nat) (hd : Nat.ble 60 (d + 1) = true) (hL : E.1 ≤ 3072) (y3 : Int) (hy0 : 0 ≤ y3) (hy1 : y3 + 6 ≤ E.1) (hnext : ∀ (a b : Nat → Nat → Int) (hv : iv a) (hg0 : WFW a) (hg1 : SV a) (hg2 : OC a) (hg3 : FO a) (hg4 : FW a) (hg5 : FARR a), jt (jxX E d 305 1189 [some (.inr (.inr (.inl 3000))), some (.inr (.inr (.inl 0))), some (.inr (.inr (.inl 146))), some (.inl y3)] [] (jxSH, a, b)) (fun v _ _ => v = [.inl 1])) (a b : Nat → Nat → Int) (hv : iv a) (hg0 : WFW a) (hg1 : SV a) (hg2 : OC a) (hg3 : FO a) (hg4 : FW a) (hg5 : FARR a) : jt (jxX E d 305 203 [some (.inr (.inr (.inl 3000))), some (.inr (.inr (.inl 0))), some (.inr (.inr (.inl 146))), some (.inl y3)] [] (jxSH, a, b)) (fun v _ _ => v = [.inl 1]) := by
  refine jt_eq (bq_law_203 E d y3 a b) ?_
  refine jt_bif (Nat.ble_eq_true_of_le (by omega)) ?_
  have h10_ : jxw (y3 + 1) = y3 + 1 := jxw_id (by omega) (by omega)
  refine jt_grd (by omega) ?_
  refine jt_bif (Nat.ble_eq_true_of_le (by omega)) ?_
  have h11_ : jxw (y3 + 2) = y3 + 2 := jxw_id (by omega) (by omega)
  refine jt_grd (by omega) ?_
  refine jt_bif (Nat.ble_eq_true_of_le (by omega)) ?_
  have h12_ : jxw (y3 + 3) = y3 + 3 := jxw_id (by omega) (by omega)
  refine jt_grd (by omega) ?_
  refine jt_bI (sp_X11_far E d (jd_le hd rfl) (E.2 ((jxw (y3 + 1)).toNat)) (E.2 ((jxw (y3 + 2)).toNat)) (E.2 ((jxw (y3 + 3)).toNat)) a b hv) (fun r13_ a13_ b13_ h13_ => ?_)
  obtain ⟨hv13_, hf13_, rfl, hq13_0⟩ := h13_
  refine jt_bif (Nat.ble_eq_true_of_le (by omega)) ?_
  refine jt_grd (by omega) ?_
  refine jt_bif (Nat.ble_eq_true_of_le (by omega)) ?_
  refine jt_grd (by omega) ?_
  refine jt_bif (Nat.ble_eq_true_of_le (by omega)) ?_
  refine jt_grd (by omega) ?_
  refine jt_bI (sp_X12_far E d (jd_le hd rfl) (E.2 ((jxw (y3 + 1)).toNat)) (E.2 ((jxw (y3 + 2)).toNat)) (E.2 ((jxw (y3 + 3)).toNat)) a13_ b hv13_) (fun r14_ a14_ b14_ h14_ => ?_)
  obtain ⟨hv14_, hf14_, rfl, hq14_0⟩ := h14_
  have hd14 := FarP_det hq13_0 hq14_0 (fun j => by rw [hf13_ 147 j rfl]; exact hg5 j)
  have hdr14 := hd14.1
  have hF14 : FARR a14_ := fun j => by rw [hf14_ 1 j rfl]; exact hd14.2 j
  refine jt_ite (fun c15_ => ?_) (fun c15_ => ?_)
  ·
    exact hnext a14_ b hv14_ (WFW_fr (WFW_fr hg0 hf13_ (fun _ => rfl) (fun _ => rfl)) hf14_ (fun _ => rfl) (fun _ => rfl)) (SV_fr (SV_fr hg1 hf13_ (fun _ => rfl) (fun _ => rfl)) hf14_ (fun _ => rfl) (fun _ => rfl)) (OC_fr (OC_fr hg2 hf13_ rfl rfl (fun _ => rfl) (fun _ => rfl) (fun _ => rfl) (fun _ => rfl) (fun _ => rfl)) hf14_ rfl rfl (fun _ => rfl) (fun _ => rfl) (fun _ => rfl) (fun _ => rfl) (fun _ => rfl)) (FO_fr (FO_fr hg3 hf13_ rfl rfl (fun _ => rfl)) hf14_ rfl rfl (fun _ => rfl)) (FW_fr (FW_fr hg4 hf13_ rfl (fun _ => rfl)) hf14_ rfl (fun _ => rfl)) hF14
  ·
    exact absurd (by omega : False) id
theorem lw_op246 (E : jxE) (d : Nat) (hd : Nat.ble 60 (d + 1) = true) (hL : E.1 ≤ 3072) (y3 : Int) (hy0 : 0 ≤ y3) (hy1 : y3 + 6 ≤ E.1) (hnext : ∀ (a b : Nat → Nat → Int) (hv : iv a) (hg0 : WFW a) (hg1 : SV a) (hg2 : OC a) (hg3 : FO a) (hg4 : FW a) (hg5 : FARR a), jt (jxX E d 305 1189 [some (.inr (.inr (.inl 3000))), some (.inr (.inr (.inl 0))), some (.inr (.inr (.inl 146))), some (.inl y3)] [] (jxSH, a, b)) (fun v _ _ => v = [.inl 1])) (a b : Nat → Nat → Int) (hv : iv a) (hg0 : WFW a) (hg1 : SV a) (hg2 : OC a) (hg3 : FO a) (hg4 : FW a) (hg5 : FARR a) : jt (jxX E d 305 246 [some (.inr (.inr (.inl 3000))), some (.inr (.inr (.inl 0))), some (.inr (.inr (.inl 146))), some (.inl y3)] [] (jxSH, a, b)) (fun v _ _ => v = [.inl 1]) := by
  refine jt_eq (bq_law_246 E d y3 a b) ?_
  refine jt_bif (Nat.ble_eq_true_of_le (by omega)) ?_
  have h16_ : jxw (y3 + 1) = y3 + 1 := jxw_id (by omega) (by omega)
  refine jt_grd (by omega) ?_
  refine jt_bif (Nat.ble_eq_true_of_le (by omega)) ?_
  have h17_ : jxw (y3 + 2) = y3 + 2 := jxw_id (by omega) (by omega)
  refine jt_grd (by omega) ?_
  refine jt_bif (Nat.ble_eq_true_of_le (by omega)) ?_
  have h18_ : jxw (y3 + 3) = y3 + 3 := jxw_id (by omega) (by omega)
  refine jt_grd (by omega) ?_
  refine jt_bI (sp_X11_member E d (jd_le hd rfl) (E.2 ((jxw (y3 + 1)).toNat)) (E.2 ((jxw (y3 + 2)).toNat)) (E.2 ((jxw (y3 + 3)).toNat)) a b hv) (fun r19_ a19_ b19_ h19_ => ?_)
  obtain ⟨hv19_, hf19_, rfl, hq19_0⟩ := h19_
  have h20_ := iv_get hv (k := 4) (j := 6) (l := 0) (u := 40) rfl
  have h21_ := iv_get hv19_ (k := 4) (j := 6) (l := 0) (u := 40) rfl
  refine jt_eq (bq_law_266 E d y3 a19_ b) ?_
  refine jt_bif (Nat.ble_eq_true_of_le (by omega)) ?_
  refine jt_grd (by omega) ?_
  refine jt_bif (Nat.ble_eq_true_of_le (by omega)) ?_
  refine jt_grd (by omega) ?_
  refine jt_bif (Nat.ble_eq_true_of_le (by omega)) ?_
  refine jt_grd (by omega) ?_
  refine jt_bI (sp_X12_member E d (jd_le hd rfl) (E.2 ((jxw (y3 + 1)).toNat)) (E.2 ((jxw (y3 + 2)).toNat)) (E.2 ((jxw (y3 + 3)).toNat)) a19_ b hv19_) (fun r22_ a22_ b22_ h22_ => ?_)
  obtain ⟨hv22_, hf22_, rfl, hq22_0⟩ := h22_
  have h23_ := iv_get hv19_ (k := 146) (j := 2) (l := 0) (u := 40) rfl
  have h24_ : a19_ 146 2 = a 146 2 := hf19_ 146 2 rfl
  have h25_ := iv_get hv (k := 146) (j := 2) (l := 0) (u := 40) rfl
  have h26_ := iv_get hv22_ (k := 146) (j := 2) (l := 0) (u := 40) rfl
  refine jt_eq (bq_law_286 E d y3 a22_ b) ?_
  exact hnext a22_ b hv22_ (WFW_fr (WFW_fr hg0 hf19_ (fun _ => rfl) (fun _ => rfl)) hf22_ (fun _ => rfl) (fun _ => rfl)) (SV_fr (SV_fr hg1 hf19_ (fun _ => rfl) (fun _ => rfl)) hf22_ (fun _ => rfl) (fun _ => rfl)) (OC_fr (OC_fr hg2 hf19_ rfl rfl (fun _ => rfl) (fun _ => rfl) (fun _ => rfl) (fun _ => rfl) (fun _ => rfl)) hf22_ rfl rfl (fun _ => rfl) (fun _ => rfl) (fun _ => rfl) (fun _ => rfl) (fun _ => rfl)) (FO_fr (FO_fr hg3 hf19_ rfl rfl (fun _ => rfl)) hf22_ rfl rfl (fun _ => rfl)) (FW_fr (FW_fr hg4 hf19_ rfl (fun _ => rfl)) hf22_ rfl (fun _ => rfl)) (FARR_fr (FARR_fr hg5 hf19_ (fun _ => rfl) (fun _ => rfl)) hf22_ (fun _ => rfl) (fun _ => rfl))
theorem lw_op289 (E : jxE) (d : Nat) (hd : Nat.ble 60 (d + 1) = true) (hL : E.1 ≤ 3072) (y3 : Int) (hy0 : 0 ≤ y3) (hy1 : y3 + 6 ≤ E.1) (hnext : ∀ (a b : Nat → Nat → Int) (hv : iv a) (hg0 : WFW a) (hg1 : SV a) (hg2 : OC a) (hg3 : FO a) (hg4 : FW a) (hg5 : FARR a), jt (jxX E d 305 1189 [some (.inr (.inr (.inl 3000))), some (.inr (.inr (.inl 0))), some (.inr (.inr (.inl 146))), some (.inl y3)] [] (jxSH, a, b)) (fun v _ _ => v = [.inl 1])) (a b : Nat → Nat → Int) (hv : iv a) (hg0 : WFW a) (hg1 : SV a) (hg2 : OC a) (hg3 : FO a) (hg4 : FW a) (hg5 : FARR a) : jt (jxX E d 305 289 [some (.inr (.inr (.inl 3000))), some (.inr (.inr (.inl 0))), some (.inr (.inr (.inl 146))), some (.inl y3)] [] (jxSH, a, b)) (fun v _ _ => v = [.inl 1]) := by
  refine jt_eq (bq_law_289 E d y3 a b) ?_
  refine jt_bif (Nat.ble_eq_true_of_le (by omega)) ?_
  have h27_ : jxw (y3 + 1) = y3 + 1 := jxw_id (by omega) (by omega)
  refine jt_grd (by omega) ?_
  refine jt_bI (sp_X11_leave E d (jd_le hd rfl) (E.2 ((jxw (y3 + 1)).toNat)) a b hv) (fun r28_ a28_ b28_ h28_ => ?_)
  obtain ⟨hv28_, hf28_, rfl⟩ := h28_
  refine jt_eq (bq_law_299 E d y3 a28_ b) ?_
  refine jt_bif (Nat.ble_eq_true_of_le (by omega)) ?_
  refine jt_grd (by omega) ?_
  refine jt_bI (sp_X12_leave E d (jd_le hd rfl) (E.2 ((jxw (y3 + 1)).toNat)) a28_ b hv28_ (OC_fr hg2 hf28_ rfl rfl (fun _ => rfl) (fun _ => rfl) (fun _ => rfl) (fun _ => rfl) (fun _ => rfl))) (fun r29_ a29_ b29_ h29_ => ?_)
  obtain ⟨hv29_, hf29_, rfl, hq29_0⟩ := h29_
  exact hnext a29_ b hv29_ (WFW_fr (WFW_fr hg0 hf28_ (fun _ => rfl) (fun _ => rfl)) hf29_ (fun _ => rfl) (fun _ => rfl)) (SV_fr (SV_fr hg1 hf28_ (fun _ => rfl) (fun _ => rfl)) hf29_ (fun _ => rfl) (fun _ => rfl)) hq29_0 (FO_fr (FO_fr hg3 hf28_ rfl rfl (fun _ => rfl)) hf29_ rfl rfl (fun _ => rfl)) (FW_fr (FW_fr hg4 hf28_ rfl (fun _ => rfl)) hf29_ rfl (fun _ => rfl)) (FARR_fr (FARR_fr hg5 hf28_ (fun _ => rfl) (fun _ => rfl)) hf29_ (fun _ => rfl) (fun _ => rfl))
theorem lw_op312 (E : jxE) (d : Nat) (hd : Nat.ble 60 (d + 1) = true) (hL : E.1 ≤ 3072) (y3 : Int) (hy0 : 0 ≤ y3) (hy1 : y3 + 6 ≤ E.1) (hnext : ∀ (a b : Nat → Nat → Int) (hv : iv a) (hg0 : WFW a) (hg1 : SV a) (hg2 : OC a) (hg3 : FO a) (hg4 : FW a) (hg5 : FARR a), jt (jxX E d 305 1189 [some (.inr (.inr (.inl 3000))), some (.inr (.inr (.inl 0))), some (.inr (.inr (.inl 146))), some (.inl y3)] [] (jxSH, a, b)) (fun v _ _ => v = [.inl 1])) (a b : Nat → Nat → Int) (hv : iv a) (hg0 : WFW a) (hg1 : SV a) (hg2 : OC a) (hg3 : FO a) (hg4 : FW a) (hg5 : FARR a) : jt (jxX E d 305 312 [some (.inr (.inr (.inl 3000))), some (.inr (.inr (.inl 0))), some (.inr (.inr (.inl 146))), some (.inl y3)] [] (jxSH, a, b)) (fun v _ _ => v = [.inl 1]) := by
  refine jt_eq (bq_law_312 E d y3 a b) ?_
  refine jt_bif (Nat.ble_eq_true_of_le (by omega)) ?_
  have h30_ : jxw (y3 + 1) = y3 + 1 := jxw_id (by omega) (by omega)
  refine jt_grd (by omega) ?_
  refine jt_bif (Nat.ble_eq_true_of_le (by omega)) ?_
  have h31_ : jxw (y3 + 2) = y3 + 2 := jxw_id (by omega) (by omega)
  refine jt_grd (by omega) ?_
  refine jt_bif (Nat.ble_eq_true_of_le (by omega)) ?_
  have h32_ : jxw (y3 + 3) = y3 + 3 := jxw_id (by omega) (by omega)
  refine jt_grd (by omega) ?_
  refine jt_bif (Nat.ble_eq_true_of_le (by omega)) ?_
  have h33_ : jxw (y3 + 4) = y3 + 4 := jxw_id (by omega) (by omega)
  refine jt_grd (by omega) ?_
  refine jt_bif (Nat.ble_eq_true_of_le (by omega)) ?_
  have h34_ : jxw (y3 + 5) = y3 + 5 := jxw_id (by omega) (by omega)
  refine jt_grd (by omega) ?_
  refine jt_bI (sp_X11_feed E d (jd_le hd rfl) (E.2 ((jxw (y3 + 1)).toNat)) (E.2 ((jxw (y3 + 2)).toNat)) (E.2 ((jxw (y3 + 3)).toNat)) (E.2 ((jxw (y3 + 4)).toNat)) (E.2 ((jxw (y3 + 5)).toNat)) a b hv) (fun r35_ a35_ b35_ h35_ => ?_)
  obtain ⟨hv35_, hf35_, rfl⟩ := h35_
  refine jt_eq (bq_law_342 E d y3 a35_ b) ?_
  refine jt_bif (Nat.ble_eq_true_of_le (by omega)) ?_
  refine jt_grd (by omega) ?_
  refine jt_bif (Nat.ble_eq_true_of_le (by omega)) ?_
  refine jt_grd (by omega) ?_
  refine jt_bif (Nat.ble_eq_true_of_le (by omega)) ?_
  refine jt_grd (by omega) ?_
  refine jt_bif (Nat.ble_eq_true_of_le (by omega)) ?_
  refine jt_grd (by omega) ?_
  refine jt_bif (Nat.ble_eq_true_of_le (by omega)) ?_
  refine jt_grd (by omega) ?_
  refine jt_bI (sp_X12_feed E d (jd_le hd rfl) (E.2 ((jxw (y3 + 1)).toNat)) (E.2 ((jxw (y3 + 2)).toNat)) (E.2 ((jxw (y3 + 3)).toNat)) (E.2 ((jxw (y3 + 4)).toNat)) (E.2 ((jxw (y3 + 5)).toNat)) a35_ b hv35_) (fun r36_ a36_ b36_ h36_ => ?_)
  obtain ⟨hv36_, hf36_, rfl⟩ := h36_
  refine jt_eq (bq_law_372 E d y3 a36_ b) ?_
  exact hnext a36_ b hv36_ (WFW_fr (WFW_fr hg0 hf35_ (fun _ => rfl) (fun _ => rfl)) hf36_ (fun _ => rfl) (fun _ => rfl)) (SV_fr (SV_fr hg1 hf35_ (fun _ => rfl) (fun _ => rfl)) hf36_ (fun _ => rfl) (fun _ => rfl)) (OC_fr (OC_fr hg2 hf35_ rfl rfl (fun _ => rfl) (fun _ => rfl) (fun _ => rfl) (fun _ => rfl) (fun _ => rfl)) hf36_ rfl rfl (fun _ => rfl) (fun _ => rfl) (fun _ => rfl) (fun _ => rfl) (fun _ => rfl)) (FO_fr (FO_fr hg3 hf35_ rfl rfl (fun _ => rfl)) hf36_ rfl rfl (fun _ => rfl)) (FW_fr (FW_fr hg4 hf35_ rfl (fun _ => rfl)) hf36_ rfl (fun _ => rfl)) (FARR_fr (FARR_fr hg5 hf35_ (fun _ => rfl) (fun _ => rfl)) hf36_ (fun _ => rfl) (fun _ => rfl))
theorem lw_op375 (E : jxE) (d : Nat) (hd : Nat.ble 60 (d + 1) = true) (hL : E.1 ≤ 3072) (y3 : Int) (hy0 : 0 ≤ y3) (hy1 : y3 + 6 ≤ E.1) (hnext : ∀ (a b : Nat → Nat → Int) (hv : iv a) (hg0 : WFW a) (hg1 : SV a) (hg2 : OC a) (hg3 : FO a) (hg4 : FW a) (hg5 : FARR a), jt (jxX E d 305 1189 [some (.inr (.inr (.inl 3000))), some (.inr (.inr (.inl 0))), some (.inr (.inr (.inl 146))), some (.inl y3)] [] (jxSH, a, b)) (fun v _ _ => v = [.inl 1])) (a b : Nat → Nat → Int) (hv : iv a) (hg0 : WFW a) (hg1 : SV a) (hg2 : OC a) (hg3 : FO a) (hg4 : FW a) (hg5 : FARR a) : jt (jxX E d 305 375 [some (.inr (.inr (.inl 3000))), some (.inr (.inr (.inl 0))), some (.inr (.inr (.inl 146))), some (.inl y3)] [] (jxSH, a, b)) (fun v _ _ => v = [.inl 1]) := by
  refine jt_eq (bq_law_375 E d y3 a b) ?_
  refine jt_bif (Nat.ble_eq_true_of_le (by omega)) ?_
  have h37_ : jxw (y3 + 1) = y3 + 1 := jxw_id (by omega) (by omega)
  refine jt_grd (by omega) ?_
  refine jt_bI (sp_X11_end E d (jd_le hd rfl) (E.2 ((jxw (y3 + 1)).toNat)) a b hv) (fun r38_ a38_ b38_ h38_ => ?_)
  obtain ⟨hv38_, hf38_, rfl⟩ := h38_
  refine jt_eq (bq_law_385 E d y3 a38_ b) ?_
  refine jt_bif (Nat.ble_eq_true_of_le (by omega)) ?_
  refine jt_grd (by omega) ?_
  refine jt_bI (sp_X12_end E d (jd_le hd rfl) (E.2 ((jxw (y3 + 1)).toNat)) a38_ b hv38_) (fun r39_ a39_ b39_ h39_ => ?_)
  obtain ⟨hv39_, hf39_, rfl⟩ := h39_
  exact hnext a39_ b hv39_ (WFW_fr (WFW_fr hg0 hf38_ (fun _ => rfl) (fun _ => rfl)) hf39_ (fun _ => rfl) (fun _ => rfl)) (SV_fr (SV_fr hg1 hf38_ (fun _ => rfl) (fun _ => rfl)) hf39_ (fun _ => rfl) (fun _ => rfl)) (OC_fr (OC_fr hg2 hf38_ rfl rfl (fun _ => rfl) (fun _ => rfl) (fun _ => rfl) (fun _ => rfl) (fun _ => rfl)) hf39_ rfl rfl (fun _ => rfl) (fun _ => rfl) (fun _ => rfl) (fun _ => rfl) (fun _ => rfl)) (FO_fr (FO_fr hg3 hf38_ rfl rfl (fun _ => rfl)) hf39_ rfl rfl (fun _ => rfl)) (FW_fr (FW_fr hg4 hf38_ rfl (fun _ => rfl)) hf39_ rfl (fun _ => rfl)) (FARR_fr (FARR_fr hg5 hf38_ (fun _ => rfl) (fun _ => rfl)) hf39_ (fun _ => rfl) (fun _ => rfl))
theorem lw_op398 (E : jxE) (d : Nat) (hd : Nat.ble 60 (d + 1) = true) (hL : E.1 ≤ 3072) (y3 : Int) (hy0 : 0 ≤ y3) (hy1 : y3 + 6 ≤ E.1) (hnext : ∀ (a b : Nat → Nat → Int) (hv : iv a) (hg0 : WFW a) (hg1 : SV a) (hg2 : OC a) (hg3 : FO a) (hg4 : FW a) (hg5 : FARR a), jt (jxX E d 305 1189 [some (.inr (.inr (.inl 3000))), some (.inr (.inr (.inl 0))), some (.inr (.inr (.inl 146))), some (.inl y3)] [] (jxSH, a, b)) (fun v _ _ => v = [.inl 1])) (a b : Nat → Nat → Int) (hv : iv a) (hg0 : WFW a) (hg1 : SV a) (hg2 : OC a) (hg3 : FO a) (hg4 : FW a) (hg5 : FARR a) : jt (jxX E d 305 398 [some (.inr (.inr (.inl 3000))), some (.inr (.inr (.inl 0))), some (.inr (.inr (.inl 146))), some (.inl y3)] [] (jxSH, a, b)) (fun v _ _ => v = [.inl 1]) := by
  refine jt_eq (bq_law_398 E d y3 a b) ?_
  refine jt_bif (Nat.ble_eq_true_of_le (by omega)) ?_
  have h40_ : jxw (y3 + 1) = y3 + 1 := jxw_id (by omega) (by omega)
  refine jt_grd (by omega) ?_
  refine jt_bI (sp_X11_wish E d (jd_le hd rfl) (E.2 ((jxw (y3 + 1)).toNat)) a b hv) (fun r41_ a41_ b41_ h41_ => ?_)
  obtain ⟨hv41_, hf41_, rfl⟩ := h41_
  refine jt_eq (bq_law_408 E d y3 a41_ b) ?_
  refine jt_bif (Nat.ble_eq_true_of_le (by omega)) ?_
  refine jt_grd (by omega) ?_
  refine jt_bI (sp_X12_wish E d (jd_le hd rfl) (E.2 ((jxw (y3 + 1)).toNat)) a41_ b hv41_ (WFW_fr hg0 hf41_ (fun _ => rfl) (fun _ => rfl))) (fun r42_ a42_ b42_ h42_ => ?_)
  obtain ⟨hv42_, hf42_, rfl, hq42_0⟩ := h42_
  exact hnext a42_ b hv42_ hq42_0 (SV_fr (SV_fr hg1 hf41_ (fun _ => rfl) (fun _ => rfl)) hf42_ (fun _ => rfl) (fun _ => rfl)) (OC_fr (OC_fr hg2 hf41_ rfl rfl (fun _ => rfl) (fun _ => rfl) (fun _ => rfl) (fun _ => rfl) (fun _ => rfl)) hf42_ rfl rfl (fun _ => rfl) (fun _ => rfl) (fun _ => rfl) (fun _ => rfl) (fun _ => rfl)) (FO_fr (FO_fr hg3 hf41_ rfl rfl (fun _ => rfl)) hf42_ rfl rfl (fun _ => rfl)) (FW_fr (FW_fr hg4 hf41_ rfl (fun _ => rfl)) hf42_ rfl (fun _ => rfl)) (FARR_fr (FARR_fr hg5 hf41_ (fun _ => rfl) (fun _ => rfl)) hf42_ (fun _ => rfl) (fun _ => rfl))
theorem lw_op421 (E : jxE) (d : Nat) (hd : Nat.ble 60 (d + 1) = true) (hL : E.1 ≤ 3072) (y3 : Int) (hy0 : 0 ≤ y3) (hy1 : y3 + 6 ≤ E.1) (hnext : ∀ (a b : Nat → Nat → Int) (hv : iv a) (hg0 : WFW a) (hg1 : SV a) (hg2 : OC a) (hg3 : FO a) (hg4 : FW a) (hg5 : FARR a), jt (jxX E d 305 1189 [some (.inr (.inr (.inl 3000))), some (.inr (.inr (.inl 0))), some (.inr (.inr (.inl 146))), some (.inl y3)] [] (jxSH, a, b)) (fun v _ _ => v = [.inl 1])) (a b : Nat → Nat → Int) (hv : iv a) (hg0 : WFW a) (hg1 : SV a) (hg2 : OC a) (hg3 : FO a) (hg4 : FW a) (hg5 : FARR a) : jt (jxX E d 305 421 [some (.inr (.inr (.inl 3000))), some (.inr (.inr (.inl 0))), some (.inr (.inr (.inl 146))), some (.inl y3)] [] (jxSH, a, b)) (fun v _ _ => v = [.inl 1]) := by
  refine jt_eq (bq_law_421 E d y3 a b) ?_
  refine jt_bif (Nat.ble_eq_true_of_le (by omega)) ?_
  have h43_ : jxw (y3 + 1) = y3 + 1 := jxw_id (by omega) (by omega)
  refine jt_grd (by omega) ?_
  refine jt_bif (Nat.ble_eq_true_of_le (by omega)) ?_
  have h44_ : jxw (y3 + 2) = y3 + 2 := jxw_id (by omega) (by omega)
  refine jt_grd (by omega) ?_
  refine jt_bI (sp_X11_meets E d (jd_le hd rfl) (E.2 ((jxw (y3 + 1)).toNat)) (E.2 ((jxw (y3 + 2)).toNat)) a b hv) (fun r45_ a45_ b45_ h45_ => ?_)
  obtain ⟨rfl, rfl⟩ := h45_
  refine jt_eq (bq_law_436 E d y3 a b) ?_
  refine jt_bif (Nat.ble_eq_true_of_le (by omega)) ?_
  refine jt_grd (by omega) ?_
  refine jt_bif (Nat.ble_eq_true_of_le (by omega)) ?_
  refine jt_grd (by omega) ?_
  refine jt_bI (sp_X12_meets E d (jd_le hd rfl) (E.2 ((jxw (y3 + 1)).toNat)) (E.2 ((jxw (y3 + 2)).toNat)) a b hv hg0) (fun r46_ a46_ b46_ h46_ => ?_)
  obtain ⟨hv46_, hf46_, rfl⟩ := h46_
  exact hnext a46_ b hv46_ (WFW_fr hg0 hf46_ (fun _ => rfl) (fun _ => rfl)) (SV_fr hg1 hf46_ (fun _ => rfl) (fun _ => rfl)) (OC_fr hg2 hf46_ rfl rfl (fun _ => rfl) (fun _ => rfl) (fun _ => rfl) (fun _ => rfl) (fun _ => rfl)) (FO_fr hg3 hf46_ rfl rfl (fun _ => rfl)) (FW_fr hg4 hf46_ rfl (fun _ => rfl)) (FARR_fr hg5 hf46_ (fun _ => rfl) (fun _ => rfl))
theorem lw_op454 (E : jxE) (d : Nat) (hd : Nat.ble 60 (d + 1) = true) (hL : E.1 ≤ 3072) (y3 : Int) (hy0 : 0 ≤ y3) (hy1 : y3 + 6 ≤ E.1) (hnext : ∀ (a b : Nat → Nat → Int) (hv : iv a) (hg0 : WFW a) (hg1 : SV a) (hg2 : OC a) (hg3 : FO a) (hg4 : FW a) (hg5 : FARR a), jt (jxX E d 305 1189 [some (.inr (.inr (.inl 3000))), some (.inr (.inr (.inl 0))), some (.inr (.inr (.inl 146))), some (.inl y3)] [] (jxSH, a, b)) (fun v _ _ => v = [.inl 1])) (a b : Nat → Nat → Int) (hv : iv a) (hg0 : WFW a) (hg1 : SV a) (hg2 : OC a) (hg3 : FO a) (hg4 : FW a) (hg5 : FARR a) : jt (jxX E d 305 454 [some (.inr (.inr (.inl 3000))), some (.inr (.inr (.inl 0))), some (.inr (.inr (.inl 146))), some (.inl y3)] [] (jxSH, a, b)) (fun v _ _ => v = [.inl 1]) := by
  refine jt_eq (bq_law_454 E d y3 a b) ?_
  refine jt_bI (sp_X11_rules E d (jd_le hd rfl) a b hv) (fun r47_ a47_ b47_ h47_ => ?_)
  obtain ⟨hv47_, hf47_, rfl⟩ := h47_
  refine jt_eq (bq_law_459 E d y3 a47_ b) ?_
  refine jt_bI (sp_X12_rules E d (jd_le hd rfl) a47_ b hv47_) (fun r48_ a48_ b48_ h48_ => ?_)
  obtain ⟨hv48_, hf48_, rfl⟩ := h48_
  exact hnext a48_ b hv48_ (WFW_fr (WFW_fr hg0 hf47_ (fun _ => rfl) (fun _ => rfl)) hf48_ (fun _ => rfl) (fun _ => rfl)) (SV_fr (SV_fr hg1 hf47_ (fun _ => rfl) (fun _ => rfl)) hf48_ (fun _ => rfl) (fun _ => rfl)) (OC_fr (OC_fr hg2 hf47_ rfl rfl (fun _ => rfl) (fun _ => rfl) (fun _ => rfl) (fun _ => rfl) (fun _ => rfl)) hf48_ rfl rfl (fun _ => rfl) (fun _ => rfl) (fun _ => rfl) (fun _ => rfl) (fun _ => rfl)) (FO_fr (FO_fr hg3 hf47_ rfl rfl (fun _ => rfl)) hf48_ rfl rfl (fun _ => rfl)) (FW_fr (FW_fr hg4 hf47_ rfl (fun _ => rfl)) hf48_ rfl (fun _ => rfl)) (FARR_fr (FARR_fr hg5 hf47_ (fun _ => rfl) (fun _ => rfl)) hf48_ (fun _ => rfl) (fun _ => rfl))
theorem lw_op467 (E : jxE) (d : Nat) (hd : Nat.ble 60 (d + 1) = true) (hL : E.1 ≤ 3072) (y3 : Int) (hy0 : 0 ≤ y3) (hy1 : y3 + 6 ≤ E.1) (hnext : ∀ (a b : Nat → Nat → Int) (hv : iv a) (hg0 : WFW a) (hg1 : SV a) (hg2 : OC a) (hg3 : FO a) (hg4 : FW a) (hg5 : FARR a), jt (jxX E d 305 1189 [some (.inr (.inr (.inl 3000))), some (.inr (.inr (.inl 0))), some (.inr (.inr (.inl 146))), some (.inl y3)] [] (jxSH, a, b)) (fun v _ _ => v = [.inl 1])) (a b : Nat → Nat → Int) (hv : iv a) (hg0 : WFW a) (hg1 : SV a) (hg2 : OC a) (hg3 : FO a) (hg4 : FW a) (hg5 : FARR a) : jt (jxX E d 305 467 [some (.inr (.inr (.inl 3000))), some (.inr (.inr (.inl 0))), some (.inr (.inr (.inl 146))), some (.inl y3)] [] (jxSH, a, b)) (fun v _ _ => v = [.inl 1]) := by
  refine jt_eq (bq_law_467 E d y3 a b) ?_
  refine jt_bif (Nat.ble_eq_true_of_le (by omega)) ?_
  have h49_ : jxw (y3 + 1) = y3 + 1 := jxw_id (by omega) (by omega)
  refine jt_grd (by omega) ?_
  refine jt_bI (sp_X11_ask E d (jd_le hd rfl) (E.2 ((jxw (y3 + 1)).toNat)) a b hv) (fun r50_ a50_ b50_ h50_ => ?_)
  obtain ⟨hv50_, hf50_, rfl⟩ := h50_
  refine jt_eq (bq_law_477 E d y3 a50_ b) ?_
  refine jt_bif (Nat.ble_eq_true_of_le (by omega)) ?_
  refine jt_grd (by omega) ?_
  refine jt_bI (sp_X12_ask E d (jd_le hd rfl) (E.2 ((jxw (y3 + 1)).toNat)) a50_ b hv50_ (WFW_fr hg0 hf50_ (fun _ => rfl) (fun _ => rfl)) (OC_fr hg2 hf50_ rfl rfl (fun _ => rfl) (fun _ => rfl) (fun _ => rfl) (fun _ => rfl) (fun _ => rfl))) (fun r51_ a51_ b51_ h51_ => ?_)
  obtain ⟨hv51_, hf51_, rfl, hq51_0⟩ := h51_
  exact hnext a51_ b hv51_ (WFW_fr (WFW_fr hg0 hf50_ (fun _ => rfl) (fun _ => rfl)) hf51_ (fun _ => rfl) (fun _ => rfl)) (SV_fr (SV_fr hg1 hf50_ (fun _ => rfl) (fun _ => rfl)) hf51_ (fun _ => rfl) (fun _ => rfl)) hq51_0 (FO_fr (FO_fr hg3 hf50_ rfl rfl (fun _ => rfl)) hf51_ rfl rfl (fun _ => rfl)) (FW_fr (FW_fr hg4 hf50_ rfl (fun _ => rfl)) hf51_ rfl (fun _ => rfl)) (FARR_fr (FARR_fr hg5 hf50_ (fun _ => rfl) (fun _ => rfl)) hf51_ (fun _ => rfl) (fun _ => rfl))
theorem lw_op490 (E : jxE) (d : Nat) (hd : Nat.ble 60 (d + 1) = true) (hL : E.1 ≤ 3072) (y3 : Int) (hy0 : 0 ≤ y3) (hy1 : y3 + 6 ≤ E.1) (hnext : ∀ (a b : Nat → Nat → Int) (hv : iv a) (hg0 : WFW a) (hg1 : SV a) (hg2 : OC a) (hg3 : FO a) (hg4 : FW a) (hg5 : FARR a), jt (jxX E d 305 1189 [some (.inr (.inr (.inl 3000))), some (.inr (.inr (.inl 0))), some (.inr (.inr (.inl 146))), some (.inl y3)] [] (jxSH, a, b)) (fun v _ _ => v = [.inl 1])) (a b : Nat → Nat → Int) (hv : iv a) (hg0 : WFW a) (hg1 : SV a) (hg2 : OC a) (hg3 : FO a) (hg4 : FW a) (hg5 : FARR a) : jt (jxX E d 305 490 [some (.inr (.inr (.inl 3000))), some (.inr (.inr (.inl 0))), some (.inr (.inr (.inl 146))), some (.inl y3)] [] (jxSH, a, b)) (fun v _ _ => v = [.inl 1]) := by
  refine jt_eq (bq_law_490 E d y3 a b) ?_
  refine jt_bif (Nat.ble_eq_true_of_le (by omega)) ?_
  have h52_ : jxw (y3 + 1) = y3 + 1 := jxw_id (by omega) (by omega)
  refine jt_grd (by omega) ?_
  refine jt_bif (Nat.ble_eq_true_of_le (by omega)) ?_
  have h53_ : jxw (y3 + 2) = y3 + 2 := jxw_id (by omega) (by omega)
  refine jt_grd (by omega) ?_
  refine jt_bI (sp_X11_may E d (jd_le hd rfl) (E.2 ((jxw (y3 + 1)).toNat)) (E.2 ((jxw (y3 + 2)).toNat)) a b hv) (fun r54_ a54_ b54_ h54_ => ?_)
  obtain ⟨hv54_, hf54_, rfl⟩ := h54_
  refine jt_eq (bq_law_505 E d y3 a54_ b) ?_
  refine jt_bif (Nat.ble_eq_true_of_le (by omega)) ?_
  refine jt_grd (by omega) ?_
  refine jt_bif (Nat.ble_eq_true_of_le (by omega)) ?_
  refine jt_grd (by omega) ?_
  refine jt_bI (sp_X12_may E d (jd_le hd rfl) (E.2 ((jxw (y3 + 1)).toNat)) (E.2 ((jxw (y3 + 2)).toNat)) a54_ b hv54_ (WFW_fr hg0 hf54_ (fun _ => rfl) (fun _ => rfl))) (fun r55_ a55_ b55_ h55_ => ?_)
  obtain ⟨hv55_, hf55_, rfl⟩ := h55_
  exact hnext a55_ b hv55_ (WFW_fr (WFW_fr hg0 hf54_ (fun _ => rfl) (fun _ => rfl)) hf55_ (fun _ => rfl) (fun _ => rfl)) (SV_fr (SV_fr hg1 hf54_ (fun _ => rfl) (fun _ => rfl)) hf55_ (fun _ => rfl) (fun _ => rfl)) (OC_fr (OC_fr hg2 hf54_ rfl rfl (fun _ => rfl) (fun _ => rfl) (fun _ => rfl) (fun _ => rfl) (fun _ => rfl)) hf55_ rfl rfl (fun _ => rfl) (fun _ => rfl) (fun _ => rfl) (fun _ => rfl) (fun _ => rfl)) (FO_fr (FO_fr hg3 hf54_ rfl rfl (fun _ => rfl)) hf55_ rfl rfl (fun _ => rfl)) (FW_fr (FW_fr hg4 hf54_ rfl (fun _ => rfl)) hf55_ rfl (fun _ => rfl)) (FARR_fr (FARR_fr hg5 hf54_ (fun _ => rfl) (fun _ => rfl)) hf55_ (fun _ => rfl) (fun _ => rfl))
theorem lw_op523 (E : jxE) (d : Nat) (hd : Nat.ble 60 (d + 1) = true) (hL : E.1 ≤ 3072) (y3 : Int) (hy0 : 0 ≤ y3) (hy1 : y3 + 6 ≤ E.1) (hnext : ∀ (a b : Nat → Nat → Int) (hv : iv a) (hg0 : WFW a) (hg1 : SV a) (hg2 : OC a) (hg3 : FO a) (hg4 : FW a) (hg5 : FARR a), jt (jxX E d 305 1189 [some (.inr (.inr (.inl 3000))), some (.inr (.inr (.inl 0))), some (.inr (.inr (.inl 146))), some (.inl y3)] [] (jxSH, a, b)) (fun v _ _ => v = [.inl 1])) (a b : Nat → Nat → Int) (hv : iv a) (hg0 : WFW a) (hg1 : SV a) (hg2 : OC a) (hg3 : FO a) (hg4 : FW a) (hg5 : FARR a) : jt (jxX E d 305 523 [some (.inr (.inr (.inl 3000))), some (.inr (.inr (.inl 0))), some (.inr (.inr (.inl 146))), some (.inl y3)] [] (jxSH, a, b)) (fun v _ _ => v = [.inl 1]) := by
  refine jt_eq (bq_law_523 E d y3 a b) ?_
  refine jt_bif (Nat.ble_eq_true_of_le (by omega)) ?_
  have h56_ : jxw (y3 + 1) = y3 + 1 := jxw_id (by omega) (by omega)
  refine jt_grd (by omega) ?_
  refine jt_bI (sp_X11_list E d (jd_le hd rfl) (E.2 ((jxw (y3 + 1)).toNat)) a b hv) (fun r57_ a57_ b57_ h57_ => ?_)
  obtain ⟨hv57_, hf57_, rfl⟩ := h57_
  refine jt_eq (bq_law_533 E d y3 a57_ b) ?_
  refine jt_bif (Nat.ble_eq_true_of_le (by omega)) ?_
  refine jt_grd (by omega) ?_
  refine jt_bI (sp_X12_list E d (jd_le hd rfl) (E.2 ((jxw (y3 + 1)).toNat)) a57_ b hv57_) (fun r58_ a58_ b58_ h58_ => ?_)
  obtain ⟨hv58_, hf58_, rfl⟩ := h58_
  exact hnext a58_ b hv58_ (WFW_fr (WFW_fr hg0 hf57_ (fun _ => rfl) (fun _ => rfl)) hf58_ (fun _ => rfl) (fun _ => rfl)) (SV_fr (SV_fr hg1 hf57_ (fun _ => rfl) (fun _ => rfl)) hf58_ (fun _ => rfl) (fun _ => rfl)) (OC_fr (OC_fr hg2 hf57_ rfl rfl (fun _ => rfl) (fun _ => rfl) (fun _ => rfl) (fun _ => rfl) (fun _ => rfl)) hf58_ rfl rfl (fun _ => rfl) (fun _ => rfl) (fun _ => rfl) (fun _ => rfl) (fun _ => rfl)) (FO_fr (FO_fr hg3 hf57_ rfl rfl (fun _ => rfl)) hf58_ rfl rfl (fun _ => rfl)) (FW_fr (FW_fr hg4 hf57_ rfl (fun _ => rfl)) hf58_ rfl (fun _ => rfl)) (FARR_fr (FARR_fr hg5 hf57_ (fun _ => rfl) (fun _ => rfl)) hf58_ (fun _ => rfl) (fun _ => rfl))
theorem lw_op546 (E : jxE) (d : Nat) (hd : Nat.ble 60 (d + 1) = true) (hL : E.1 ≤ 3072) (y3 : Int) (hy0 : 0 ≤ y3) (hy1 : y3 + 6 ≤ E.1) (hnext : ∀ (a b : Nat → Nat → Int) (hv : iv a) (hg0 : WFW a) (hg1 : SV a) (hg2 : OC a) (hg3 : FO a) (hg4 : FW a) (hg5 : FARR a), jt (jxX E d 305 1189 [some (.inr (.inr (.inl 3000))), some (.inr (.inr (.inl 0))), some (.inr (.inr (.inl 146))), some (.inl y3)] [] (jxSH, a, b)) (fun v _ _ => v = [.inl 1])) (a b : Nat → Nat → Int) (hv : iv a) (hg0 : WFW a) (hg1 : SV a) (hg2 : OC a) (hg3 : FO a) (hg4 : FW a) (hg5 : FARR a) : jt (jxX E d 305 546 [some (.inr (.inr (.inl 3000))), some (.inr (.inr (.inl 0))), some (.inr (.inr (.inl 146))), some (.inl y3)] [] (jxSH, a, b)) (fun v _ _ => v = [.inl 1]) := by
  refine jt_eq (bq_law_546 E d y3 a b) ?_
  refine jt_bI (sp_X11_give E d (jd_le hd rfl) a b hv) (fun r59_ a59_ b59_ h59_ => ?_)
  obtain ⟨hv59_, hf59_⟩ := h59_
  refine jt_eq (bq_law_551 E d y3 a59_ b59_) ?_
  refine jt_bI (sp_X12_give E d (jd_le hd rfl) a59_ b59_ hv59_ (WFW_fr hg0 hf59_ (fun _ => rfl) (fun _ => rfl)) (OC_fr hg2 hf59_ rfl rfl (fun _ => rfl) (fun _ => rfl) (fun _ => rfl) (fun _ => rfl) (fun _ => rfl))) (fun r60_ a60_ b60_ h60_ => ?_)
  obtain ⟨hv60_, hf60_, hq60_0⟩ := h60_
  exact hnext a60_ b60_ hv60_ (WFW_fr (WFW_fr hg0 hf59_ (fun _ => rfl) (fun _ => rfl)) hf60_ (fun _ => rfl) (fun _ => rfl)) (SV_fr (SV_fr hg1 hf59_ (fun _ => rfl) (fun _ => rfl)) hf60_ (fun _ => rfl) (fun _ => rfl)) hq60_0 (FO_fr (FO_fr hg3 hf59_ rfl rfl (fun _ => rfl)) hf60_ rfl rfl (fun _ => rfl)) (FW_fr (FW_fr hg4 hf59_ rfl (fun _ => rfl)) hf60_ rfl (fun _ => rfl)) (FARR_fr (FARR_fr hg5 hf59_ (fun _ => rfl) (fun _ => rfl)) hf60_ (fun _ => rfl) (fun _ => rfl))
theorem lw_op559 (E : jxE) (d : Nat) (hd : Nat.ble 60 (d + 1) = true) (hL : E.1 ≤ 3072) (y3 : Int) (hy0 : 0 ≤ y3) (hy1 : y3 + 6 ≤ E.1) (hnext : ∀ (a b : Nat → Nat → Int) (hv : iv a) (hg0 : WFW a) (hg1 : SV a) (hg2 : OC a) (hg3 : FO a) (hg4 : FW a) (hg5 : FARR a), jt (jxX E d 305 1189 [some (.inr (.inr (.inl 3000))), some (.inr (.inr (.inl 0))), some (.inr (.inr (.inl 146))), some (.inl y3)] [] (jxSH, a, b)) (fun v _ _ => v = [.inl 1])) (a b : Nat → Nat → Int) (hv : iv a) (hg0 : WFW a) (hg1 : SV a) (hg2 : OC a) (hg3 : FO a) (hg4 : FW a) (hg5 : FARR a) : jt (jxX E d 305 559 [some (.inr (.inr (.inl 3000))), some (.inr (.inr (.inl 0))), some (.inr (.inr (.inl 146))), some (.inl y3)] [] (jxSH, a, b)) (fun v _ _ => v = [.inl 1]) := by
  refine jt_eq (bq_law_559 E d y3 a b) ?_
  refine jt_bif (Nat.ble_eq_true_of_le (by omega)) ?_
  have h61_ : jxw (y3 + 1) = y3 + 1 := jxw_id (by omega) (by omega)
  refine jt_grd (by omega) ?_
  refine jt_bif (Nat.ble_eq_true_of_le (by omega)) ?_
  have h62_ : jxw (y3 + 2) = y3 + 2 := jxw_id (by omega) (by omega)
  refine jt_grd (by omega) ?_
  refine jt_bI (sp_X11_arrive E d (jd_le hd rfl) (E.2 ((jxw (y3 + 1)).toNat)) (E.2 ((jxw (y3 + 2)).toNat)) a b hv) (fun r63_ a63_ b63_ h63_ => ?_)
  obtain ⟨hv63_, hf63_, rfl, hq63_0⟩ := h63_
  refine jt_eq (bq_law_574 E d y3 a63_ b) ?_
  refine jt_bif (Nat.ble_eq_true_of_le (by omega)) ?_
  refine jt_grd (by omega) ?_
  refine jt_bif (Nat.ble_eq_true_of_le (by omega)) ?_
  refine jt_grd (by omega) ?_
  refine jt_bI (sp_X12_arrive E d (jd_le hd rfl) (E.2 ((jxw (y3 + 1)).toNat)) (E.2 ((jxw (y3 + 2)).toNat)) a63_ b hv63_) (fun r64_ a64_ b64_ h64_ => ?_)
  obtain ⟨hv64_, hf64_, rfl, hq64_0⟩ := h64_
  exact hnext a64_ b hv64_ (WFW_fr (WFW_fr hg0 hf63_ (fun _ => rfl) (fun _ => rfl)) hf64_ (fun _ => rfl) (fun _ => rfl)) (SV_fr (SV_fr hg1 hf63_ (fun _ => rfl) (fun _ => rfl)) hf64_ (fun _ => rfl) (fun _ => rfl)) (OC_fr (OC_fr hg2 hf63_ rfl rfl (fun _ => rfl) (fun _ => rfl) (fun _ => rfl) (fun _ => rfl) (fun _ => rfl)) hf64_ rfl rfl (fun _ => rfl) (fun _ => rfl) (fun _ => rfl) (fun _ => rfl) (fun _ => rfl)) (FO_fr (FO_fr hg3 hf63_ rfl rfl (fun _ => rfl)) hf64_ rfl rfl (fun _ => rfl)) (FW_fr (FW_fr hg4 hf63_ rfl (fun _ => rfl)) hf64_ rfl (fun _ => rfl)) (FARR_fr (FARR_fr hg5 hf63_ (fun _ => rfl) (fun _ => rfl)) hf64_ (fun _ => rfl) (fun _ => rfl))
theorem lw_op592 (E : jxE) (d : Nat) (hd : Nat.ble 60 (d + 1) = true) (hL : E.1 ≤ 3072) (y3 : Int) (hy0 : 0 ≤ y3) (hy1 : y3 + 6 ≤ E.1) (hnext : ∀ (a b : Nat → Nat → Int) (hv : iv a) (hg0 : WFW a) (hg1 : SV a) (hg2 : OC a) (hg3 : FO a) (hg4 : FW a) (hg5 : FARR a), jt (jxX E d 305 1189 [some (.inr (.inr (.inl 3000))), some (.inr (.inr (.inl 0))), some (.inr (.inr (.inl 146))), some (.inl y3)] [] (jxSH, a, b)) (fun v _ _ => v = [.inl 1])) (a b : Nat → Nat → Int) (hv : iv a) (hg0 : WFW a) (hg1 : SV a) (hg2 : OC a) (hg3 : FO a) (hg4 : FW a) (hg5 : FARR a) : jt (jxX E d 305 592 [some (.inr (.inr (.inl 3000))), some (.inr (.inr (.inl 0))), some (.inr (.inr (.inl 146))), some (.inl y3)] [] (jxSH, a, b)) (fun v _ _ => v = [.inl 1]) := by
  refine jt_eq (bq_law_592 E d y3 a b) ?_
  refine jt_bif (Nat.ble_eq_true_of_le (by omega)) ?_
  have h65_ : jxw (y3 + 1) = y3 + 1 := jxw_id (by omega) (by omega)
  refine jt_grd (by omega) ?_
  refine jt_bI (sp_X11_back E d (jd_le hd rfl) (E.2 ((jxw (y3 + 1)).toNat)) a b hv) (fun r66_ a66_ b66_ h66_ => ?_)
  obtain ⟨hv66_, hf66_, rfl, hq66_0⟩ := h66_
  refine jt_eq (bq_law_602 E d y3 a66_ b) ?_
  refine jt_bif (Nat.ble_eq_true_of_le (by omega)) ?_
  refine jt_grd (by omega) ?_
  refine jt_bI (sp_X12_back E d (jd_le hd rfl) (E.2 ((jxw (y3 + 1)).toNat)) a66_ b hv66_) (fun r67_ a67_ b67_ h67_ => ?_)
  obtain ⟨hv67_, hf67_, rfl, hq67_0⟩ := h67_
  exact hnext a67_ b hv67_ (WFW_fr (WFW_fr hg0 hf66_ (fun _ => rfl) (fun _ => rfl)) hf67_ (fun _ => rfl) (fun _ => rfl)) (SV_fr (SV_fr hg1 hf66_ (fun _ => rfl) (fun _ => rfl)) hf67_ (fun _ => rfl) (fun _ => rfl)) (OC_fr (OC_fr hg2 hf66_ rfl rfl (fun _ => rfl) (fun _ => rfl) (fun _ => rfl) (fun _ => rfl) (fun _ => rfl)) hf67_ rfl rfl (fun _ => rfl) (fun _ => rfl) (fun _ => rfl) (fun _ => rfl) (fun _ => rfl)) (FO_fr (FO_fr hg3 hf66_ rfl rfl (fun _ => rfl)) hf67_ rfl rfl (fun _ => rfl)) (FW_fr (FW_fr hg4 hf66_ rfl (fun _ => rfl)) hf67_ rfl (fun _ => rfl)) (FARR_fr (FARR_fr hg5 hf66_ (fun _ => rfl) (fun _ => rfl)) hf67_ (fun _ => rfl) (fun _ => rfl))
theorem lw_op615 (E : jxE) (d : Nat) (hd : Nat.ble 60 (d + 1) = true) (hL : E.1 ≤ 3072) (y3 : Int) (hy0 : 0 ≤ y3) (hy1 : y3 + 6 ≤ E.1) (hnext : ∀ (a b : Nat → Nat → Int) (hv : iv a) (hg0 : WFW a) (hg1 : SV a) (hg2 : OC a) (hg3 : FO a) (hg4 : FW a) (hg5 : FARR a), jt (jxX E d 305 1189 [some (.inr (.inr (.inl 3000))), some (.inr (.inr (.inl 0))), some (.inr (.inr (.inl 146))), some (.inl y3)] [] (jxSH, a, b)) (fun v _ _ => v = [.inl 1])) (a b : Nat → Nat → Int) (hv : iv a) (hg0 : WFW a) (hg1 : SV a) (hg2 : OC a) (hg3 : FO a) (hg4 : FW a) (hg5 : FARR a) : jt (jxX E d 305 615 [some (.inr (.inr (.inl 3000))), some (.inr (.inr (.inl 0))), some (.inr (.inr (.inl 146))), some (.inl y3)] [] (jxSH, a, b)) (fun v _ _ => v = [.inl 1]) := by
  refine jt_eq (bq_law_615 E d y3 a b) ?_
  refine jt_bif (Nat.ble_eq_true_of_le (by omega)) ?_
  have h68_ : jxw (y3 + 1) = y3 + 1 := jxw_id (by omega) (by omega)
  refine jt_grd (by omega) ?_
  refine jt_bif (Nat.ble_eq_true_of_le (by omega)) ?_
  have h69_ : jxw (y3 + 2) = y3 + 2 := jxw_id (by omega) (by omega)
  refine jt_grd (by omega) ?_
  refine jt_eI (eq_X11_card E d (jd_le hd rfl) (E.2 ((jxw (y3 + 1)).toNat)) (E.2 ((jxw (y3 + 2)).toNat)) a b) ?_
  refine jt_eq (bq_law_630 E d y3 a b) ?_
  refine jt_bif (Nat.ble_eq_true_of_le (by omega)) ?_
  refine jt_grd (by omega) ?_
  refine jt_bif (Nat.ble_eq_true_of_le (by omega)) ?_
  refine jt_grd (by omega) ?_
  refine jt_bI (sp_X12_card E d (jd_le hd rfl) (E.2 ((jxw (y3 + 1)).toNat)) (E.2 ((jxw (y3 + 2)).toNat)) a b hv) (fun r70_ a70_ b70_ h70_ => ?_)
  obtain ⟨rfl, rfl⟩ := h70_
  exact hnext a b hv hg0 hg1 hg2 hg3 hg4 hg5
theorem lw_op648 (E : jxE) (d : Nat) (hd : Nat.ble 60 (d + 1) = true) (hL : E.1 ≤ 3072) (y3 : Int) (hy0 : 0 ≤ y3) (hy1 : y3 + 6 ≤ E.1) (hnext : ∀ (a b : Nat → Nat → Int) (hv : iv a) (hg0 : WFW a) (hg1 : SV a) (hg2 : OC a) (hg3 : FO a) (hg4 : FW a) (hg5 : FARR a), jt (jxX E d 305 1189 [some (.inr (.inr (.inl 3000))), some (.inr (.inr (.inl 0))), some (.inr (.inr (.inl 146))), some (.inl y3)] [] (jxSH, a, b)) (fun v _ _ => v = [.inl 1])) (a b : Nat → Nat → Int) (hv : iv a) (hg0 : WFW a) (hg1 : SV a) (hg2 : OC a) (hg3 : FO a) (hg4 : FW a) (hg5 : FARR a) : jt (jxX E d 305 648 [some (.inr (.inr (.inl 3000))), some (.inr (.inr (.inl 0))), some (.inr (.inr (.inl 146))), some (.inl y3)] [] (jxSH, a, b)) (fun v _ _ => v = [.inl 1]) := by
  refine jt_eq (bq_law_648 E d y3 a b) ?_
  refine jt_bif (Nat.ble_eq_true_of_le (by omega)) ?_
  have h71_ : jxw (y3 + 1) = y3 + 1 := jxw_id (by omega) (by omega)
  refine jt_grd (by omega) ?_
  refine jt_bif (Nat.ble_eq_true_of_le (by omega)) ?_
  have h72_ : jxw (y3 + 2) = y3 + 2 := jxw_id (by omega) (by omega)
  refine jt_grd (by omega) ?_
  refine jt_bif (Nat.ble_eq_true_of_le (by omega)) ?_
  have h73_ : jxw (y3 + 3) = y3 + 3 := jxw_id (by omega) (by omega)
  refine jt_grd (by omega) ?_
  refine jt_bI (sp_X11_state E d (jd_le hd rfl) (E.2 ((jxw (y3 + 1)).toNat)) (E.2 ((jxw (y3 + 2)).toNat)) (E.2 ((jxw (y3 + 3)).toNat)) a b hv) (fun r74_ a74_ b74_ h74_ => ?_)
  obtain ⟨rfl, rfl⟩ := h74_
  refine jt_eq (bq_law_668 E d y3 a b) ?_
  refine jt_bif (Nat.ble_eq_true_of_le (by omega)) ?_
  refine jt_grd (by omega) ?_
  refine jt_bif (Nat.ble_eq_true_of_le (by omega)) ?_
  refine jt_grd (by omega) ?_
  refine jt_bif (Nat.ble_eq_true_of_le (by omega)) ?_
  refine jt_grd (by omega) ?_
  refine jt_bI (sp_X12_state E d (jd_le hd rfl) (E.2 ((jxw (y3 + 1)).toNat)) (E.2 ((jxw (y3 + 2)).toNat)) (E.2 ((jxw (y3 + 3)).toNat)) a b hv) (fun r75_ a75_ b75_ h75_ => ?_)
  obtain ⟨rfl, rfl⟩ := h75_
  refine jt_eq (bq_law_688 E d y3 a b) ?_
  exact hnext a b hv hg0 hg1 hg2 hg3 hg4 hg5
theorem lw_op691 (E : jxE) (d : Nat) (hd : Nat.ble 60 (d + 1) = true) (hL : E.1 ≤ 3072) (y3 : Int) (hy0 : 0 ≤ y3) (hy1 : y3 + 6 ≤ E.1) (hnext : ∀ (a b : Nat → Nat → Int) (hv : iv a) (hg0 : WFW a) (hg1 : SV a) (hg2 : OC a) (hg3 : FO a) (hg4 : FW a) (hg5 : FARR a), jt (jxX E d 305 1189 [some (.inr (.inr (.inl 3000))), some (.inr (.inr (.inl 0))), some (.inr (.inr (.inl 146))), some (.inl y3)] [] (jxSH, a, b)) (fun v _ _ => v = [.inl 1])) (a b : Nat → Nat → Int) (hv : iv a) (hg0 : WFW a) (hg1 : SV a) (hg2 : OC a) (hg3 : FO a) (hg4 : FW a) (hg5 : FARR a) : jt (jxX E d 305 691 [some (.inr (.inr (.inl 3000))), some (.inr (.inr (.inl 0))), some (.inr (.inr (.inl 146))), some (.inl y3)] [] (jxSH, a, b)) (fun v _ _ => v = [.inl 1]) := by
  refine jt_eq (bq_law_691 E d y3 a b) ?_
  refine jt_bif (Nat.ble_eq_true_of_le (by omega)) ?_
  have h76_ : jxw (y3 + 1) = y3 + 1 := jxw_id (by omega) (by omega)
  refine jt_grd (by omega) ?_
  refine jt_bif (Nat.ble_eq_true_of_le (by omega)) ?_
  have h77_ : jxw (y3 + 2) = y3 + 2 := jxw_id (by omega) (by omega)
  refine jt_grd (by omega) ?_
  refine jt_bI (sp_X11_about E d (jd_le hd rfl) (E.2 ((jxw (y3 + 1)).toNat)) (E.2 ((jxw (y3 + 2)).toNat)) a b hv) (fun r78_ a78_ b78_ h78_ => ?_)
  obtain ⟨hv78_, hf78_, rfl⟩ := h78_
  refine jt_eq (bq_law_706 E d y3 a78_ b) ?_
  refine jt_bif (Nat.ble_eq_true_of_le (by omega)) ?_
  refine jt_grd (by omega) ?_
  refine jt_bif (Nat.ble_eq_true_of_le (by omega)) ?_
  refine jt_grd (by omega) ?_
  refine jt_bI (sp_X12_about E d (jd_le hd rfl) (E.2 ((jxw (y3 + 1)).toNat)) (E.2 ((jxw (y3 + 2)).toNat)) a78_ b hv78_) (fun r79_ a79_ b79_ h79_ => ?_)
  obtain ⟨rfl, rfl⟩ := h79_
  exact hnext a78_ b hv78_ (WFW_fr hg0 hf78_ (fun _ => rfl) (fun _ => rfl)) (SV_fr hg1 hf78_ (fun _ => rfl) (fun _ => rfl)) (OC_fr hg2 hf78_ rfl rfl (fun _ => rfl) (fun _ => rfl) (fun _ => rfl) (fun _ => rfl) (fun _ => rfl)) (FO_fr hg3 hf78_ rfl rfl (fun _ => rfl)) (FW_fr hg4 hf78_ rfl (fun _ => rfl)) (FARR_fr hg5 hf78_ (fun _ => rfl) (fun _ => rfl))
theorem lw_op724 (E : jxE) (d : Nat) (hd : Nat.ble 60 (d + 1) = true) (hL : E.1 ≤ 3072) (y3 : Int) (hy0 : 0 ≤ y3) (hy1 : y3 + 6 ≤ E.1) (hnext : ∀ (a b : Nat → Nat → Int) (hv : iv a) (hg0 : WFW a) (hg1 : SV a) (hg2 : OC a) (hg3 : FO a) (hg4 : FW a) (hg5 : FARR a), jt (jxX E d 305 1189 [some (.inr (.inr (.inl 3000))), some (.inr (.inr (.inl 0))), some (.inr (.inr (.inl 146))), some (.inl y3)] [] (jxSH, a, b)) (fun v _ _ => v = [.inl 1])) (a b : Nat → Nat → Int) (hv : iv a) (hg0 : WFW a) (hg1 : SV a) (hg2 : OC a) (hg3 : FO a) (hg4 : FW a) (hg5 : FARR a) : jt (jxX E d 305 724 [some (.inr (.inr (.inl 3000))), some (.inr (.inr (.inl 0))), some (.inr (.inr (.inl 146))), some (.inl y3)] [] (jxSH, a, b)) (fun v _ _ => v = [.inl 1]) := by
  refine jt_eq (bq_law_724 E d y3 a b) ?_
  refine jt_bif (Nat.ble_eq_true_of_le (by omega)) ?_
  have h80_ : jxw (y3 + 1) = y3 + 1 := jxw_id (by omega) (by omega)
  refine jt_grd (by omega) ?_
  refine jt_bI (sp_X11_album E d (jd_le hd rfl) (E.2 ((jxw (y3 + 1)).toNat)) a b hv) (fun r81_ a81_ b81_ h81_ => ?_)
  obtain ⟨rfl, rfl⟩ := h81_
  refine jt_eq (bq_law_734 E d y3 a b) ?_
  refine jt_bif (Nat.ble_eq_true_of_le (by omega)) ?_
  refine jt_grd (by omega) ?_
  refine jt_bI (sp_X12_album E d (jd_le hd rfl) (E.2 ((jxw (y3 + 1)).toNat)) a b hv) (fun r82_ a82_ b82_ h82_ => ?_)
  obtain ⟨rfl, rfl⟩ := h82_
  exact hnext a b hv hg0 hg1 hg2 hg3 hg4 hg5
theorem lw_op747 (E : jxE) (d : Nat) (hd : Nat.ble 60 (d + 1) = true) (hL : E.1 ≤ 3072) (y3 : Int) (hy0 : 0 ≤ y3) (hy1 : y3 + 6 ≤ E.1) (hnext : ∀ (a b : Nat → Nat → Int) (hv : iv a) (hg0 : WFW a) (hg1 : SV a) (hg2 : OC a) (hg3 : FO a) (hg4 : FW a) (hg5 : FARR a), jt (jxX E d 305 1189 [some (.inr (.inr (.inl 3000))), some (.inr (.inr (.inl 0))), some (.inr (.inr (.inl 146))), some (.inl y3)] [] (jxSH, a, b)) (fun v _ _ => v = [.inl 1])) (a b : Nat → Nat → Int) (hv : iv a) (hg0 : WFW a) (hg1 : SV a) (hg2 : OC a) (hg3 : FO a) (hg4 : FW a) (hg5 : FARR a) : jt (jxX E d 305 747 [some (.inr (.inr (.inl 3000))), some (.inr (.inr (.inl 0))), some (.inr (.inr (.inl 146))), some (.inl y3)] [] (jxSH, a, b)) (fun v _ _ => v = [.inl 1]) := by
  refine jt_eq (bq_law_747 E d y3 a b) ?_
  refine jt_bif (Nat.ble_eq_true_of_le (by omega)) ?_
  have h83_ : jxw (y3 + 1) = y3 + 1 := jxw_id (by omega) (by omega)
  refine jt_grd (by omega) ?_
  refine jt_bif (Nat.ble_eq_true_of_le (by omega)) ?_
  have h84_ : jxw (y3 + 2) = y3 + 2 := jxw_id (by omega) (by omega)
  refine jt_grd (by omega) ?_
  refine jt_bif (Nat.ble_eq_true_of_le (by omega)) ?_
  have h85_ : jxw (y3 + 3) = y3 + 3 := jxw_id (by omega) (by omega)
  refine jt_grd (by omega) ?_
  refine jt_bI (sp_X11_span E d (jd_le hd rfl) (E.2 ((jxw (y3 + 1)).toNat)) (E.2 ((jxw (y3 + 2)).toNat)) (E.2 ((jxw (y3 + 3)).toNat)) a b hv) (fun r86_ a86_ b86_ h86_ => ?_)
  obtain ⟨hv86_, hf86_, rfl⟩ := h86_
  refine jt_eq (bq_law_767 E d y3 a86_ b) ?_
  refine jt_bif (Nat.ble_eq_true_of_le (by omega)) ?_
  refine jt_grd (by omega) ?_
  refine jt_bif (Nat.ble_eq_true_of_le (by omega)) ?_
  refine jt_grd (by omega) ?_
  refine jt_bif (Nat.ble_eq_true_of_le (by omega)) ?_
  refine jt_grd (by omega) ?_
  refine jt_bI (sp_X12_span E d (jd_le hd rfl) (E.2 ((jxw (y3 + 1)).toNat)) (E.2 ((jxw (y3 + 2)).toNat)) (E.2 ((jxw (y3 + 3)).toNat)) a86_ b hv86_) (fun r87_ a87_ b87_ h87_ => ?_)
  obtain ⟨hv87_, hf87_, rfl⟩ := h87_
  refine jt_eq (bq_law_787 E d y3 a87_ b) ?_
  exact hnext a87_ b hv87_ (WFW_fr (WFW_fr hg0 hf86_ (fun _ => rfl) (fun _ => rfl)) hf87_ (fun _ => rfl) (fun _ => rfl)) (SV_fr (SV_fr hg1 hf86_ (fun _ => rfl) (fun _ => rfl)) hf87_ (fun _ => rfl) (fun _ => rfl)) (OC_fr (OC_fr hg2 hf86_ rfl rfl (fun _ => rfl) (fun _ => rfl) (fun _ => rfl) (fun _ => rfl) (fun _ => rfl)) hf87_ rfl rfl (fun _ => rfl) (fun _ => rfl) (fun _ => rfl) (fun _ => rfl) (fun _ => rfl)) (FO_fr (FO_fr hg3 hf86_ rfl rfl (fun _ => rfl)) hf87_ rfl rfl (fun _ => rfl)) (FW_fr (FW_fr hg4 hf86_ rfl (fun _ => rfl)) hf87_ rfl (fun _ => rfl)) (FARR_fr (FARR_fr hg5 hf86_ (fun _ => rfl) (fun _ => rfl)) hf87_ (fun _ => rfl) (fun _ => rfl))
theorem lw_op790 (E : jxE) (d : Nat) (hd : Nat.ble 60 (d + 1) = true) (hL : E.1 ≤ 3072) (y3 : Int) (hy0 : 0 ≤ y3) (hy1 : y3 + 6 ≤ E.1) (hnext : ∀ (a b : Nat → Nat → Int) (hv : iv a) (hg0 : WFW a) (hg1 : SV a) (hg2 : OC a) (hg3 : FO a) (hg4 : FW a) (hg5 : FARR a), jt (jxX E d 305 1189 [some (.inr (.inr (.inl 3000))), some (.inr (.inr (.inl 0))), some (.inr (.inr (.inl 146))), some (.inl y3)] [] (jxSH, a, b)) (fun v _ _ => v = [.inl 1])) (a b : Nat → Nat → Int) (hv : iv a) (hg0 : WFW a) (hg1 : SV a) (hg2 : OC a) (hg3 : FO a) (hg4 : FW a) (hg5 : FARR a) : jt (jxX E d 305 790 [some (.inr (.inr (.inl 3000))), some (.inr (.inr (.inl 0))), some (.inr (.inr (.inl 146))), some (.inl y3)] [] (jxSH, a, b)) (fun v _ _ => v = [.inl 1]) := by
  refine jt_eq (bq_law_790 E d y3 a b) ?_
  refine jt_bif (Nat.ble_eq_true_of_le (by omega)) ?_
  have h88_ : jxw (y3 + 1) = y3 + 1 := jxw_id (by omega) (by omega)
  refine jt_grd (by omega) ?_
  refine jt_bif (Nat.ble_eq_true_of_le (by omega)) ?_
  have h89_ : jxw (y3 + 2) = y3 + 2 := jxw_id (by omega) (by omega)
  refine jt_grd (by omega) ?_
  refine jt_bif (Nat.ble_eq_true_of_le (by omega)) ?_
  have h90_ : jxw (y3 + 3) = y3 + 3 := jxw_id (by omega) (by omega)
  refine jt_grd (by omega) ?_
  refine jt_bI (sp_X11_offer E d (jd_le hd rfl) (E.2 ((jxw (y3 + 1)).toNat)) (E.2 ((jxw (y3 + 2)).toNat)) (E.2 ((jxw (y3 + 3)).toNat)) a b hv) (fun r91_ a91_ b91_ h91_ => ?_)
  obtain ⟨hv91_, hf91_, rfl⟩ := h91_
  refine jt_eq (bq_law_810 E d y3 a91_ b) ?_
  refine jt_bif (Nat.ble_eq_true_of_le (by omega)) ?_
  refine jt_grd (by omega) ?_
  refine jt_bif (Nat.ble_eq_true_of_le (by omega)) ?_
  refine jt_grd (by omega) ?_
  refine jt_bif (Nat.ble_eq_true_of_le (by omega)) ?_
  refine jt_grd (by omega) ?_
  refine jt_bI (sp_X12_offer E d (jd_le hd rfl) (E.2 ((jxw (y3 + 1)).toNat)) (E.2 ((jxw (y3 + 2)).toNat)) (E.2 ((jxw (y3 + 3)).toNat)) a91_ b hv91_ (OC_fr hg2 hf91_ rfl rfl (fun _ => rfl) (fun _ => rfl) (fun _ => rfl) (fun _ => rfl) (fun _ => rfl)) (FO_fr hg3 hf91_ rfl rfl (fun _ => rfl)) (FW_fr hg4 hf91_ rfl (fun _ => rfl))) (fun r92_ a92_ b92_ h92_ => ?_)
  obtain ⟨hv92_, hf92_, rfl, hq92_0, hq92_1, hq92_2⟩ := h92_
  refine jt_eq (bq_law_830 E d y3 a92_ b) ?_
  exact hnext a92_ b hv92_ (WFW_fr (WFW_fr hg0 hf91_ (fun _ => rfl) (fun _ => rfl)) hf92_ (fun _ => rfl) (fun _ => rfl)) (SV_fr (SV_fr hg1 hf91_ (fun _ => rfl) (fun _ => rfl)) hf92_ (fun _ => rfl) (fun _ => rfl)) hq92_0 hq92_1 hq92_2 (FARR_fr (FARR_fr hg5 hf91_ (fun _ => rfl) (fun _ => rfl)) hf92_ (fun _ => rfl) (fun _ => rfl))
theorem lw_op833 (E : jxE) (d : Nat) (hd : Nat.ble 60 (d + 1) = true) (hL : E.1 ≤ 3072) (y3 : Int) (hy0 : 0 ≤ y3) (hy1 : y3 + 6 ≤ E.1) (hnext : ∀ (a b : Nat → Nat → Int) (hv : iv a) (hg0 : WFW a) (hg1 : SV a) (hg2 : OC a) (hg3 : FO a) (hg4 : FW a) (hg5 : FARR a), jt (jxX E d 305 1189 [some (.inr (.inr (.inl 3000))), some (.inr (.inr (.inl 0))), some (.inr (.inr (.inl 146))), some (.inl y3)] [] (jxSH, a, b)) (fun v _ _ => v = [.inl 1])) (a b : Nat → Nat → Int) (hv : iv a) (hg0 : WFW a) (hg1 : SV a) (hg2 : OC a) (hg3 : FO a) (hg4 : FW a) (hg5 : FARR a) : jt (jxX E d 305 833 [some (.inr (.inr (.inl 3000))), some (.inr (.inr (.inl 0))), some (.inr (.inr (.inl 146))), some (.inl y3)] [] (jxSH, a, b)) (fun v _ _ => v = [.inl 1]) := by
  refine jt_eq (bq_law_833 E d y3 a b) ?_
  refine jt_bif (Nat.ble_eq_true_of_le (by omega)) ?_
  have h93_ : jxw (y3 + 1) = y3 + 1 := jxw_id (by omega) (by omega)
  refine jt_grd (by omega) ?_
  refine jt_bI (sp_X11_away E d (jd_le hd rfl) (E.2 ((jxw (y3 + 1)).toNat)) a b hv) (fun r94_ a94_ b94_ h94_ => ?_)
  obtain ⟨hv94_, hf94_, rfl, hq94_0⟩ := h94_
  refine jt_eq (bq_law_843 E d y3 a94_ b) ?_
  refine jt_bif (Nat.ble_eq_true_of_le (by omega)) ?_
  refine jt_grd (by omega) ?_
  refine jt_bI (sp_X12_away E d (jd_le hd rfl) (E.2 ((jxw (y3 + 1)).toNat)) a94_ b hv94_ (OC_fr hg2 hf94_ rfl rfl (fun _ => rfl) (fun _ => rfl) (fun _ => rfl) (fun _ => rfl) (fun _ => rfl))) (fun r95_ a95_ b95_ h95_ => ?_)
  obtain ⟨hv95_, hf95_, rfl, hq95_0, hq95_1⟩ := h95_
  exact hnext a95_ b hv95_ (WFW_fr (WFW_fr hg0 hf94_ (fun _ => rfl) (fun _ => rfl)) hf95_ (fun _ => rfl) (fun _ => rfl)) (SV_fr (SV_fr hg1 hf94_ (fun _ => rfl) (fun _ => rfl)) hf95_ (fun _ => rfl) (fun _ => rfl)) hq95_1 (FO_fr (FO_fr hg3 hf94_ rfl rfl (fun _ => rfl)) hf95_ rfl rfl (fun _ => rfl)) (FW_fr (FW_fr hg4 hf94_ rfl (fun _ => rfl)) hf95_ rfl (fun _ => rfl)) (FARR_fr (FARR_fr hg5 hf94_ (fun _ => rfl) (fun _ => rfl)) hf95_ (fun _ => rfl) (fun _ => rfl))
theorem lw_op856 (E : jxE) (d : Nat) (hd : Nat.ble 60 (d + 1) = true) (hL : E.1 ≤ 3072) (y3 : Int) (hy0 : 0 ≤ y3) (hy1 : y3 + 6 ≤ E.1) (hnext : ∀ (a b : Nat → Nat → Int) (hv : iv a) (hg0 : WFW a) (hg1 : SV a) (hg2 : OC a) (hg3 : FO a) (hg4 : FW a) (hg5 : FARR a), jt (jxX E d 305 1189 [some (.inr (.inr (.inl 3000))), some (.inr (.inr (.inl 0))), some (.inr (.inr (.inl 146))), some (.inl y3)] [] (jxSH, a, b)) (fun v _ _ => v = [.inl 1])) (a b : Nat → Nat → Int) (hv : iv a) (hg0 : WFW a) (hg1 : SV a) (hg2 : OC a) (hg3 : FO a) (hg4 : FW a) (hg5 : FARR a) : jt (jxX E d 305 856 [some (.inr (.inr (.inl 3000))), some (.inr (.inr (.inl 0))), some (.inr (.inr (.inl 146))), some (.inl y3)] [] (jxSH, a, b)) (fun v _ _ => v = [.inl 1]) := by
  refine jt_eq (bq_law_856 E d y3 a b) ?_
  refine jt_bI (sp_X11_rings E d (jd_le hd rfl) a b hv) (fun r96_ a96_ b96_ h96_ => ?_)
  obtain ⟨hv96_, hf96_⟩ := h96_
  refine jt_eq (bq_law_861 E d y3 a96_ b96_) ?_
  refine jt_bI (sp_X12_rings E d (jd_le hd rfl) a96_ b96_ hv96_ (FO_fr hg3 hf96_ rfl rfl (fun _ => rfl)) (FW_fr hg4 hf96_ rfl (fun _ => rfl))) (fun r97_ a97_ b97_ h97_ => ?_)
  obtain ⟨hv97_, hf97_, rfl, hq97_0, hq97_1⟩ := h97_
  exact hnext a97_ b96_ hv97_ (WFW_fr (WFW_fr hg0 hf96_ (fun _ => rfl) (fun _ => rfl)) hf97_ (fun _ => rfl) (fun _ => rfl)) (SV_fr (SV_fr hg1 hf96_ (fun _ => rfl) (fun _ => rfl)) hf97_ (fun _ => rfl) (fun _ => rfl)) (OC_fr (OC_fr hg2 hf96_ rfl rfl (fun _ => rfl) (fun _ => rfl) (fun _ => rfl) (fun _ => rfl) (fun _ => rfl)) hf97_ rfl rfl (fun _ => rfl) (fun _ => rfl) (fun _ => rfl) (fun _ => rfl) (fun _ => rfl)) hq97_0 hq97_1 (FARR_fr (FARR_fr hg5 hf96_ (fun _ => rfl) (fun _ => rfl)) hf97_ (fun _ => rfl) (fun _ => rfl))
theorem lw_op869 (E : jxE) (d : Nat) (hd : Nat.ble 60 (d + 1) = true) (hL : E.1 ≤ 3072) (y3 : Int) (hy0 : 0 ≤ y3) (hy1 : y3 + 6 ≤ E.1) (hnext : ∀ (a b : Nat → Nat → Int) (hv : iv a) (hg0 : WFW a) (hg1 : SV a) (hg2 : OC a) (hg3 : FO a) (hg4 : FW a) (hg5 : FARR a), jt (jxX E d 305 1189 [some (.inr (.inr (.inl 3000))), some (.inr (.inr (.inl 0))), some (.inr (.inr (.inl 146))), some (.inl y3)] [] (jxSH, a, b)) (fun v _ _ => v = [.inl 1])) (a b : Nat → Nat → Int) (hv : iv a) (hg0 : WFW a) (hg1 : SV a) (hg2 : OC a) (hg3 : FO a) (hg4 : FW a) (hg5 : FARR a) : jt (jxX E d 305 869 [some (.inr (.inr (.inl 3000))), some (.inr (.inr (.inl 0))), some (.inr (.inr (.inl 146))), some (.inl y3)] [] (jxSH, a, b)) (fun v _ _ => v = [.inl 1]) := by
  refine jt_eq (bq_law_869 E d y3 a b) ?_
  refine jt_bif (Nat.ble_eq_true_of_le (by omega)) ?_
  have h98_ : jxw (y3 + 1) = y3 + 1 := jxw_id (by omega) (by omega)
  refine jt_grd (by omega) ?_
  refine jt_bif (Nat.ble_eq_true_of_le (by omega)) ?_
  have h99_ : jxw (y3 + 2) = y3 + 2 := jxw_id (by omega) (by omega)
  refine jt_grd (by omega) ?_
  refine jt_eI (eq_X11_ring E d (jd_le hd rfl) (E.2 ((jxw (y3 + 1)).toNat)) (E.2 ((jxw (y3 + 2)).toNat)) a b) ?_
  refine jt_eq (bq_law_884 E d y3 a b) ?_
  refine jt_bif (Nat.ble_eq_true_of_le (by omega)) ?_
  refine jt_grd (by omega) ?_
  refine jt_bif (Nat.ble_eq_true_of_le (by omega)) ?_
  refine jt_grd (by omega) ?_
  refine jt_eI (eq_X12_ring E d (jd_le hd rfl) (E.2 ((jxw (y3 + 1)).toNat)) (E.2 ((jxw (y3 + 2)).toNat)) a b hv) ?_
  exact hnext a b hv hg0 hg1 hg2 hg3 hg4 hg5
theorem lw_op902 (E : jxE) (d : Nat) (hd : Nat.ble 60 (d + 1) = true) (hL : E.1 ≤ 3072) (y3 : Int) (hy0 : 0 ≤ y3) (hy1 : y3 + 6 ≤ E.1) (hnext : ∀ (a b : Nat → Nat → Int) (hv : iv a) (hg0 : WFW a) (hg1 : SV a) (hg2 : OC a) (hg3 : FO a) (hg4 : FW a) (hg5 : FARR a), jt (jxX E d 305 1189 [some (.inr (.inr (.inl 3000))), some (.inr (.inr (.inl 0))), some (.inr (.inr (.inl 146))), some (.inl y3)] [] (jxSH, a, b)) (fun v _ _ => v = [.inl 1])) (a b : Nat → Nat → Int) (hv : iv a) (hg0 : WFW a) (hg1 : SV a) (hg2 : OC a) (hg3 : FO a) (hg4 : FW a) (hg5 : FARR a) : jt (jxX E d 305 902 [some (.inr (.inr (.inl 3000))), some (.inr (.inr (.inl 0))), some (.inr (.inr (.inl 146))), some (.inl y3)] [] (jxSH, a, b)) (fun v _ _ => v = [.inl 1]) := by
  refine jt_eq (bq_law_902 E d y3 a b) ?_
  refine jt_bif (Nat.ble_eq_true_of_le (by omega)) ?_
  have h100_ : jxw (y3 + 1) = y3 + 1 := jxw_id (by omega) (by omega)
  refine jt_grd (by omega) ?_
  refine jt_bI (sp_X11_close E d (jd_le hd rfl) (E.2 ((jxw (y3 + 1)).toNat)) a b hv) (fun r101_ a101_ b101_ h101_ => ?_)
  obtain ⟨hv101_, hf101_, rfl⟩ := h101_
  refine jt_eq (bq_law_912 E d y3 a101_ b) ?_
  refine jt_bif (Nat.ble_eq_true_of_le (by omega)) ?_
  refine jt_grd (by omega) ?_
  refine jt_bI (sp_X12_close E d (jd_le hd rfl) (E.2 ((jxw (y3 + 1)).toNat)) a101_ b hv101_ (OC_fr hg2 hf101_ rfl rfl (fun _ => rfl) (fun _ => rfl) (fun _ => rfl) (fun _ => rfl) (fun _ => rfl)) (FO_fr hg3 hf101_ rfl rfl (fun _ => rfl))) (fun r102_ a102_ b102_ h102_ => ?_)
  obtain ⟨hv102_, hf102_, rfl, hq102_0⟩ := h102_
  exact hnext a102_ b hv102_ (WFW_fr (WFW_fr hg0 hf101_ (fun _ => rfl) (fun _ => rfl)) hf102_ (fun _ => rfl) (fun _ => rfl)) (SV_fr (SV_fr hg1 hf101_ (fun _ => rfl) (fun _ => rfl)) hf102_ (fun _ => rfl) (fun _ => rfl)) hq102_0 (FO_fr (FO_fr hg3 hf101_ rfl rfl (fun _ => rfl)) hf102_ rfl rfl (fun _ => rfl)) (FW_fr (FW_fr hg4 hf101_ rfl (fun _ => rfl)) hf102_ rfl (fun _ => rfl)) (FARR_fr (FARR_fr hg5 hf101_ (fun _ => rfl) (fun _ => rfl)) hf102_ (fun _ => rfl) (fun _ => rfl))
theorem lw_op925 (E : jxE) (d : Nat) (hd : Nat.ble 60 (d + 1) = true) (hL : E.1 ≤ 3072) (y3 : Int) (hy0 : 0 ≤ y3) (hy1 : y3 + 6 ≤ E.1) (hnext : ∀ (a b : Nat → Nat → Int) (hv : iv a) (hg0 : WFW a) (hg1 : SV a) (hg2 : OC a) (hg3 : FO a) (hg4 : FW a) (hg5 : FARR a), jt (jxX E d 305 1189 [some (.inr (.inr (.inl 3000))), some (.inr (.inr (.inl 0))), some (.inr (.inr (.inl 146))), some (.inl y3)] [] (jxSH, a, b)) (fun v _ _ => v = [.inl 1])) (a b : Nat → Nat → Int) (hv : iv a) (hg0 : WFW a) (hg1 : SV a) (hg2 : OC a) (hg3 : FO a) (hg4 : FW a) (hg5 : FARR a) : jt (jxX E d 305 925 [some (.inr (.inr (.inl 3000))), some (.inr (.inr (.inl 0))), some (.inr (.inr (.inl 146))), some (.inl y3)] [] (jxSH, a, b)) (fun v _ _ => v = [.inl 1]) := by
  refine jt_eq (bq_law_925 E d y3 a b) ?_
  refine jt_bif (Nat.ble_eq_true_of_le (by omega)) ?_
  have h103_ : jxw (y3 + 1) = y3 + 1 := jxw_id (by omega) (by omega)
  refine jt_grd (by omega) ?_
  refine jt_bif (Nat.ble_eq_true_of_le (by omega)) ?_
  have h104_ : jxw (y3 + 2) = y3 + 2 := jxw_id (by omega) (by omega)
  refine jt_grd (by omega) ?_
  refine jt_bI (sp_X11_drop E d (jd_le hd rfl) (E.2 ((jxw (y3 + 1)).toNat)) (E.2 ((jxw (y3 + 2)).toNat)) a b hv) (fun r105_ a105_ b105_ h105_ => ?_)
  obtain ⟨hv105_, hf105_, rfl⟩ := h105_
  refine jt_eq (bq_law_940 E d y3 a105_ b) ?_
  refine jt_bif (Nat.ble_eq_true_of_le (by omega)) ?_
  refine jt_grd (by omega) ?_
  refine jt_bif (Nat.ble_eq_true_of_le (by omega)) ?_
  refine jt_grd (by omega) ?_
  refine jt_bI (sp_X12_drop E d (jd_le hd rfl) (E.2 ((jxw (y3 + 1)).toNat)) (E.2 ((jxw (y3 + 2)).toNat)) a105_ b hv105_ (OC_fr hg2 hf105_ rfl rfl (fun _ => rfl) (fun _ => rfl) (fun _ => rfl) (fun _ => rfl) (fun _ => rfl))) (fun r106_ a106_ b106_ h106_ => ?_)
  obtain ⟨hv106_, hf106_, rfl, hq106_0⟩ := h106_
  exact hnext a106_ b hv106_ (WFW_fr (WFW_fr hg0 hf105_ (fun _ => rfl) (fun _ => rfl)) hf106_ (fun _ => rfl) (fun _ => rfl)) (SV_fr (SV_fr hg1 hf105_ (fun _ => rfl) (fun _ => rfl)) hf106_ (fun _ => rfl) (fun _ => rfl)) hq106_0 (FO_fr (FO_fr hg3 hf105_ rfl rfl (fun _ => rfl)) hf106_ rfl rfl (fun _ => rfl)) (FW_fr (FW_fr hg4 hf105_ rfl (fun _ => rfl)) hf106_ rfl (fun _ => rfl)) (FARR_fr (FARR_fr hg5 hf105_ (fun _ => rfl) (fun _ => rfl)) hf106_ (fun _ => rfl) (fun _ => rfl))
theorem lw_op958 (E : jxE) (d : Nat) (hd : Nat.ble 60 (d + 1) = true) (hL : E.1 ≤ 3072) (y3 : Int) (hy0 : 0 ≤ y3) (hy1 : y3 + 6 ≤ E.1) (hnext : ∀ (a b : Nat → Nat → Int) (hv : iv a) (hg0 : WFW a) (hg1 : SV a) (hg2 : OC a) (hg3 : FO a) (hg4 : FW a) (hg5 : FARR a), jt (jxX E d 305 1189 [some (.inr (.inr (.inl 3000))), some (.inr (.inr (.inl 0))), some (.inr (.inr (.inl 146))), some (.inl y3)] [] (jxSH, a, b)) (fun v _ _ => v = [.inl 1])) (a b : Nat → Nat → Int) (hv : iv a) (hg0 : WFW a) (hg1 : SV a) (hg2 : OC a) (hg3 : FO a) (hg4 : FW a) (hg5 : FARR a) : jt (jxX E d 305 958 [some (.inr (.inr (.inl 3000))), some (.inr (.inr (.inl 0))), some (.inr (.inr (.inl 146))), some (.inl y3)] [] (jxSH, a, b)) (fun v _ _ => v = [.inl 1]) := by
  refine jt_eq (bq_law_958 E d y3 a b) ?_
  refine jt_bif (Nat.ble_eq_true_of_le (by omega)) ?_
  have h107_ : jxw (y3 + 1) = y3 + 1 := jxw_id (by omega) (by omega)
  refine jt_grd (by omega) ?_
  refine jt_bif (Nat.ble_eq_true_of_le (by omega)) ?_
  have h108_ : jxw (y3 + 2) = y3 + 2 := jxw_id (by omega) (by omega)
  refine jt_grd (by omega) ?_
  refine jt_eI (eq_X11_offers E d (jd_le hd rfl) (E.2 ((jxw (y3 + 1)).toNat)) (E.2 ((jxw (y3 + 2)).toNat)) a b) ?_
  refine jt_eq (bq_law_973 E d y3 a b) ?_
  refine jt_bif (Nat.ble_eq_true_of_le (by omega)) ?_
  refine jt_grd (by omega) ?_
  refine jt_bif (Nat.ble_eq_true_of_le (by omega)) ?_
  refine jt_grd (by omega) ?_
  refine jt_eI (eq_X12_offers E d (jd_le hd rfl) (E.2 ((jxw (y3 + 1)).toNat)) (E.2 ((jxw (y3 + 2)).toNat)) a b hv) ?_
  exact hnext a b hv hg0 hg1 hg2 hg3 hg4 hg5
theorem lw_op991 (E : jxE) (d : Nat) (hd : Nat.ble 60 (d + 1) = true) (hL : E.1 ≤ 3072) (y3 : Int) (hy0 : 0 ≤ y3) (hy1 : y3 + 6 ≤ E.1) (hnext : ∀ (a b : Nat → Nat → Int) (hv : iv a) (hg0 : WFW a) (hg1 : SV a) (hg2 : OC a) (hg3 : FO a) (hg4 : FW a) (hg5 : FARR a), jt (jxX E d 305 1189 [some (.inr (.inr (.inl 3000))), some (.inr (.inr (.inl 0))), some (.inr (.inr (.inl 146))), some (.inl y3)] [] (jxSH, a, b)) (fun v _ _ => v = [.inl 1])) (a b : Nat → Nat → Int) (hv : iv a) (hg0 : WFW a) (hg1 : SV a) (hg2 : OC a) (hg3 : FO a) (hg4 : FW a) (hg5 : FARR a) : jt (jxX E d 305 991 [some (.inr (.inr (.inl 3000))), some (.inr (.inr (.inl 0))), some (.inr (.inr (.inl 146))), some (.inl y3)] [] (jxSH, a, b)) (fun v _ _ => v = [.inl 1]) := by
  refine jt_eq (bq_law_991 E d y3 a b) ?_
  refine jt_bif (Nat.ble_eq_true_of_le (by omega)) ?_
  have h109_ : jxw (y3 + 1) = y3 + 1 := jxw_id (by omega) (by omega)
  refine jt_grd (by omega) ?_
  refine jt_bI (sp_X11_rates E d (jd_le hd rfl) (E.2 ((jxw (y3 + 1)).toNat)) a b hv) (fun r110_ a110_ b110_ h110_ => ?_)
  obtain ⟨hv110_, hf110_, rfl⟩ := h110_
  refine jt_eq (bq_law_1001 E d y3 a110_ b) ?_
  refine jt_bif (Nat.ble_eq_true_of_le (by omega)) ?_
  refine jt_grd (by omega) ?_
  refine jt_bI (sp_X12_rates E d (jd_le hd rfl) (E.2 ((jxw (y3 + 1)).toNat)) a110_ b hv110_) (fun r111_ a111_ b111_ h111_ => ?_)
  obtain ⟨hv111_, hf111_, rfl⟩ := h111_
  exact hnext a111_ b hv111_ (WFW_fr (WFW_fr hg0 hf110_ (fun _ => rfl) (fun _ => rfl)) hf111_ (fun _ => rfl) (fun _ => rfl)) (SV_fr (SV_fr hg1 hf110_ (fun _ => rfl) (fun _ => rfl)) hf111_ (fun _ => rfl) (fun _ => rfl)) (OC_fr (OC_fr hg2 hf110_ rfl rfl (fun _ => rfl) (fun _ => rfl) (fun _ => rfl) (fun _ => rfl) (fun _ => rfl)) hf111_ rfl rfl (fun _ => rfl) (fun _ => rfl) (fun _ => rfl) (fun _ => rfl) (fun _ => rfl)) (FO_fr (FO_fr hg3 hf110_ rfl rfl (fun _ => rfl)) hf111_ rfl rfl (fun _ => rfl)) (FW_fr (FW_fr hg4 hf110_ rfl (fun _ => rfl)) hf111_ rfl (fun _ => rfl)) (FARR_fr (FARR_fr hg5 hf110_ (fun _ => rfl) (fun _ => rfl)) hf111_ (fun _ => rfl) (fun _ => rfl))
theorem lw_op1014 (E : jxE) (d : Nat) (hd : Nat.ble 60 (d + 1) = true) (hL : E.1 ≤ 3072) (y3 : Int) (hy0 : 0 ≤ y3) (hy1 : y3 + 6 ≤ E.1) (hnext : ∀ (a b : Nat → Nat → Int) (hv : iv a) (hg0 : WFW a) (hg1 : SV a) (hg2 : OC a) (hg3 : FO a) (hg4 : FW a) (hg5 : FARR a), jt (jxX E d 305 1189 [some (.inr (.inr (.inl 3000))), some (.inr (.inr (.inl 0))), some (.inr (.inr (.inl 146))), some (.inl y3)] [] (jxSH, a, b)) (fun v _ _ => v = [.inl 1])) (a b : Nat → Nat → Int) (hv : iv a) (hg0 : WFW a) (hg1 : SV a) (hg2 : OC a) (hg3 : FO a) (hg4 : FW a) (hg5 : FARR a) : jt (jxX E d 305 1014 [some (.inr (.inr (.inl 3000))), some (.inr (.inr (.inl 0))), some (.inr (.inr (.inl 146))), some (.inl y3)] [] (jxSH, a, b)) (fun v _ _ => v = [.inl 1]) := by
  refine jt_eq (bq_law_1014 E d y3 a b) ?_
  refine jt_bif (Nat.ble_eq_true_of_le (by omega)) ?_
  have h112_ : jxw (y3 + 1) = y3 + 1 := jxw_id (by omega) (by omega)
  refine jt_grd (by omega) ?_
  refine jt_bif (Nat.ble_eq_true_of_le (by omega)) ?_
  have h113_ : jxw (y3 + 2) = y3 + 2 := jxw_id (by omega) (by omega)
  refine jt_grd (by omega) ?_
  refine jt_bif (Nat.ble_eq_true_of_le (by omega)) ?_
  have h114_ : jxw (y3 + 3) = y3 + 3 := jxw_id (by omega) (by omega)
  refine jt_grd (by omega) ?_
  refine jt_bif (Nat.ble_eq_true_of_le (by omega)) ?_
  have h115_ : jxw (y3 + 4) = y3 + 4 := jxw_id (by omega) (by omega)
  refine jt_grd (by omega) ?_
  refine jt_bI (sp_X11_price E d (jd_le hd rfl) (E.2 ((jxw (y3 + 1)).toNat)) (E.2 ((jxw (y3 + 2)).toNat)) (E.2 ((jxw (y3 + 3)).toNat)) (E.2 ((jxw (y3 + 4)).toNat)) a b hv) (fun r116_ a116_ b116_ h116_ => ?_)
  obtain ⟨rfl, rfl⟩ := h116_
  refine jt_eq (bq_law_1039 E d y3 a b) ?_
  refine jt_bif (Nat.ble_eq_true_of_le (by omega)) ?_
  refine jt_grd (by omega) ?_
  refine jt_bif (Nat.ble_eq_true_of_le (by omega)) ?_
  refine jt_grd (by omega) ?_
  refine jt_bif (Nat.ble_eq_true_of_le (by omega)) ?_
  refine jt_grd (by omega) ?_
  refine jt_bif (Nat.ble_eq_true_of_le (by omega)) ?_
  refine jt_grd (by omega) ?_
  refine jt_bI (sp_X12_price E d (jd_le hd rfl) (E.2 ((jxw (y3 + 1)).toNat)) (E.2 ((jxw (y3 + 2)).toNat)) (E.2 ((jxw (y3 + 3)).toNat)) (E.2 ((jxw (y3 + 4)).toNat)) a b hv) (fun r117_ a117_ b117_ h117_ => ?_)
  obtain ⟨rfl, rfl⟩ := h117_
  refine jt_eq (bq_law_1064 E d y3 a b) ?_
  exact hnext a b hv hg0 hg1 hg2 hg3 hg4 hg5
theorem lw_op1067 (E : jxE) (d : Nat) (hd : Nat.ble 60 (d + 1) = true) (hL : E.1 ≤ 3072) (y3 : Int) (hy0 : 0 ≤ y3) (hy1 : y3 + 6 ≤ E.1) (hnext : ∀ (a b : Nat → Nat → Int) (hv : iv a) (hg0 : WFW a) (hg1 : SV a) (hg2 : OC a) (hg3 : FO a) (hg4 : FW a) (hg5 : FARR a), jt (jxX E d 305 1189 [some (.inr (.inr (.inl 3000))), some (.inr (.inr (.inl 0))), some (.inr (.inr (.inl 146))), some (.inl y3)] [] (jxSH, a, b)) (fun v _ _ => v = [.inl 1])) (a b : Nat → Nat → Int) (hv : iv a) (hg0 : WFW a) (hg1 : SV a) (hg2 : OC a) (hg3 : FO a) (hg4 : FW a) (hg5 : FARR a) : jt (jxX E d 305 1067 [some (.inr (.inr (.inl 3000))), some (.inr (.inr (.inl 0))), some (.inr (.inr (.inl 146))), some (.inl y3)] [] (jxSH, a, b)) (fun v _ _ => v = [.inl 1]) := by
  refine jt_eq (bq_law_1067 E d y3 a b) ?_
  refine jt_bif (Nat.ble_eq_true_of_le (by omega)) ?_
  have h118_ : jxw (y3 + 1) = y3 + 1 := jxw_id (by omega) (by omega)
  refine jt_grd (by omega) ?_
  refine jt_bif (Nat.ble_eq_true_of_le (by omega)) ?_
  have h119_ : jxw (y3 + 2) = y3 + 2 := jxw_id (by omega) (by omega)
  refine jt_grd (by omega) ?_
  refine jt_bif (Nat.ble_eq_true_of_le (by omega)) ?_
  have h120_ : jxw (y3 + 3) = y3 + 3 := jxw_id (by omega) (by omega)
  refine jt_grd (by omega) ?_
  refine jt_bI (sp_X11_stamps E d (jd_le hd rfl) (E.2 ((jxw (y3 + 1)).toNat)) (E.2 ((jxw (y3 + 2)).toNat)) (E.2 ((jxw (y3 + 3)).toNat)) a b hv) (fun r121_ a121_ b121_ h121_ => ?_)
  obtain ⟨hv121_, hf121_, rfl, hq121_0, hq121_1⟩ := h121_
  refine jt_eq (bq_law_1087 E d y3 a121_ b) ?_
  refine jt_bif (Nat.ble_eq_true_of_le (by omega)) ?_
  refine jt_grd (by omega) ?_
  refine jt_bif (Nat.ble_eq_true_of_le (by omega)) ?_
  refine jt_grd (by omega) ?_
  refine jt_bif (Nat.ble_eq_true_of_le (by omega)) ?_
  refine jt_grd (by omega) ?_
  refine jt_bI (sp_X12_stamps E d (jd_le hd rfl) (E.2 ((jxw (y3 + 1)).toNat)) (E.2 ((jxw (y3 + 2)).toNat)) (E.2 ((jxw (y3 + 3)).toNat)) a121_ b hv121_ (SV_fr hg1 hf121_ (fun _ => rfl) (fun _ => rfl))) (fun r122_ a122_ b122_ h122_ => ?_)
  obtain ⟨hv122_, hf122_, rfl, hq122_0, hq122_1, hq122_2⟩ := h122_
  refine jt_eq (bq_law_1107 E d y3 a122_ b) ?_
  exact hnext a122_ b hv122_ (WFW_fr (WFW_fr hg0 hf121_ (fun _ => rfl) (fun _ => rfl)) hf122_ (fun _ => rfl) (fun _ => rfl)) hq122_1 (OC_fr (OC_fr hg2 hf121_ rfl rfl (fun _ => rfl) (fun _ => rfl) (fun _ => rfl) (fun _ => rfl) (fun _ => rfl)) hf122_ rfl rfl (fun _ => rfl) (fun _ => rfl) (fun _ => rfl) (fun _ => rfl) (fun _ => rfl)) (FO_fr (FO_fr hg3 hf121_ rfl rfl (fun _ => rfl)) hf122_ rfl rfl (fun _ => rfl)) (FW_fr (FW_fr hg4 hf121_ rfl (fun _ => rfl)) hf122_ rfl (fun _ => rfl)) (FARR_fr (FARR_fr hg5 hf121_ (fun _ => rfl) (fun _ => rfl)) hf122_ (fun _ => rfl) (fun _ => rfl))
theorem lw_op1110 (E : jxE) (d : Nat) (hd : Nat.ble 60 (d + 1) = true) (hL : E.1 ≤ 3072) (y3 : Int) (hy0 : 0 ≤ y3) (hy1 : y3 + 6 ≤ E.1) (hnext : ∀ (a b : Nat → Nat → Int) (hv : iv a) (hg0 : WFW a) (hg1 : SV a) (hg2 : OC a) (hg3 : FO a) (hg4 : FW a) (hg5 : FARR a), jt (jxX E d 305 1189 [some (.inr (.inr (.inl 3000))), some (.inr (.inr (.inl 0))), some (.inr (.inr (.inl 146))), some (.inl y3)] [] (jxSH, a, b)) (fun v _ _ => v = [.inl 1])) (a b : Nat → Nat → Int) (hv : iv a) (hg0 : WFW a) (hg1 : SV a) (hg2 : OC a) (hg3 : FO a) (hg4 : FW a) (hg5 : FARR a) : jt (jxX E d 305 1110 [some (.inr (.inr (.inl 3000))), some (.inr (.inr (.inl 0))), some (.inr (.inr (.inl 146))), some (.inl y3)] [] (jxSH, a, b)) (fun v _ _ => v = [.inl 1]) := by
  refine jt_eq (bq_law_1110 E d y3 a b) ?_
  refine jt_bif (Nat.ble_eq_true_of_le (by omega)) ?_
  have h123_ : jxw (y3 + 1) = y3 + 1 := jxw_id (by omega) (by omega)
  refine jt_grd (by omega) ?_
  refine jt_bif (Nat.ble_eq_true_of_le (by omega)) ?_
  have h124_ : jxw (y3 + 2) = y3 + 2 := jxw_id (by omega) (by omega)
  refine jt_grd (by omega) ?_
  refine jt_bI (sp_X11_pay E d (jd_le hd rfl) (E.2 ((jxw (y3 + 1)).toNat)) (E.2 ((jxw (y3 + 2)).toNat)) a b hv) (fun r125_ a125_ b125_ h125_ => ?_)
  obtain ⟨hv125_, hf125_⟩ := h125_
  refine jt_eq (bq_law_1125 E d y3 a125_ b125_) ?_
  refine jt_bif (Nat.ble_eq_true_of_le (by omega)) ?_
  refine jt_grd (by omega) ?_
  refine jt_bif (Nat.ble_eq_true_of_le (by omega)) ?_
  refine jt_grd (by omega) ?_
  refine jt_bI (sp_X12_pay E d (jd_le hd rfl) (E.2 ((jxw (y3 + 1)).toNat)) (E.2 ((jxw (y3 + 2)).toNat)) a125_ b125_ hv125_ (SV_fr hg1 hf125_ (fun _ => rfl) (fun _ => rfl))) (fun r126_ a126_ b126_ h126_ => ?_)
  obtain ⟨hv126_, hf126_, rfl, hq126_0⟩ := h126_
  exact hnext a126_ b125_ hv126_ (WFW_fr (WFW_fr hg0 hf125_ (fun _ => rfl) (fun _ => rfl)) hf126_ (fun _ => rfl) (fun _ => rfl)) hq126_0 (OC_fr (OC_fr hg2 hf125_ rfl rfl (fun _ => rfl) (fun _ => rfl) (fun _ => rfl) (fun _ => rfl) (fun _ => rfl)) hf126_ rfl rfl (fun _ => rfl) (fun _ => rfl) (fun _ => rfl) (fun _ => rfl) (fun _ => rfl)) (FO_fr (FO_fr hg3 hf125_ rfl rfl (fun _ => rfl)) hf126_ rfl rfl (fun _ => rfl)) (FW_fr (FW_fr hg4 hf125_ rfl (fun _ => rfl)) hf126_ rfl (fun _ => rfl)) (FARR_fr (FARR_fr hg5 hf125_ (fun _ => rfl) (fun _ => rfl)) hf126_ (fun _ => rfl) (fun _ => rfl))
theorem lw_op1143 (E : jxE) (d : Nat) (hd : Nat.ble 60 (d + 1) = true) (hL : E.1 ≤ 3072) (y3 : Int) (hy0 : 0 ≤ y3) (hy1 : y3 + 6 ≤ E.1) (hnext : ∀ (a b : Nat → Nat → Int) (hv : iv a) (hg0 : WFW a) (hg1 : SV a) (hg2 : OC a) (hg3 : FO a) (hg4 : FW a) (hg5 : FARR a), jt (jxX E d 305 1189 [some (.inr (.inr (.inl 3000))), some (.inr (.inr (.inl 0))), some (.inr (.inr (.inl 146))), some (.inl y3)] [] (jxSH, a, b)) (fun v _ _ => v = [.inl 1])) (a b : Nat → Nat → Int) (hv : iv a) (hg0 : WFW a) (hg1 : SV a) (hg2 : OC a) (hg3 : FO a) (hg4 : FW a) (hg5 : FARR a) : jt (jxX E d 305 1143 [some (.inr (.inr (.inl 3000))), some (.inr (.inr (.inl 0))), some (.inr (.inr (.inl 146))), some (.inl y3)] [] (jxSH, a, b)) (fun v _ _ => v = [.inl 1]) := by
  refine jt_eq (bq_law_1143 E d y3 a b) ?_
  refine jt_bif (Nat.ble_eq_true_of_le (by omega)) ?_
  have h127_ : jxw (y3 + 1) = y3 + 1 := jxw_id (by omega) (by omega)
  refine jt_grd (by omega) ?_
  refine jt_eI (eq_X11_paid E d (jd_le hd rfl) (E.2 ((jxw (y3 + 1)).toNat)) a b) ?_
  refine jt_eq (bq_law_1153 E d y3 a b) ?_
  refine jt_bif (Nat.ble_eq_true_of_le (by omega)) ?_
  refine jt_grd (by omega) ?_
  refine jt_eI (eq_X12_paid E d (jd_le hd rfl) (E.2 ((jxw (y3 + 1)).toNat)) a b) ?_
  exact hnext a b hv hg0 hg1 hg2 hg3 hg4 hg5
theorem lw_op1166 (E : jxE) (d : Nat) (hd : Nat.ble 60 (d + 1) = true) (hL : E.1 ≤ 3072) (y3 : Int) (hy0 : 0 ≤ y3) (hy1 : y3 + 6 ≤ E.1) (hnext : ∀ (a b : Nat → Nat → Int) (hv : iv a) (hg0 : WFW a) (hg1 : SV a) (hg2 : OC a) (hg3 : FO a) (hg4 : FW a) (hg5 : FARR a), jt (jxX E d 305 1189 [some (.inr (.inr (.inl 3000))), some (.inr (.inr (.inl 0))), some (.inr (.inr (.inl 146))), some (.inl y3)] [] (jxSH, a, b)) (fun v _ _ => v = [.inl 1])) (a b : Nat → Nat → Int) (hv : iv a) (hg0 : WFW a) (hg1 : SV a) (hg2 : OC a) (hg3 : FO a) (hg4 : FW a) (hg5 : FARR a) : jt (jxX E d 305 1166 [some (.inr (.inr (.inl 3000))), some (.inr (.inr (.inl 0))), some (.inr (.inr (.inl 146))), some (.inl y3)] [] (jxSH, a, b)) (fun v _ _ => v = [.inl 1]) := by
  refine jt_eq (bq_law_1166 E d y3 a b) ?_
  refine jt_bif (Nat.ble_eq_true_of_le (by omega)) ?_
  have h128_ : jxw (y3 + 1) = y3 + 1 := jxw_id (by omega) (by omega)
  refine jt_grd (by omega) ?_
  refine jt_bI (sp_X11_count E d (jd_le hd rfl) (E.2 ((jxw (y3 + 1)).toNat)) a b hv) (fun r129_ a129_ b129_ h129_ => ?_)
  obtain ⟨rfl, rfl⟩ := h129_
  refine jt_eq (bq_law_1176 E d y3 a b) ?_
  refine jt_bif (Nat.ble_eq_true_of_le (by omega)) ?_
  refine jt_grd (by omega) ?_
  refine jt_bI (sp_X12_count E d (jd_le hd rfl) (E.2 ((jxw (y3 + 1)).toNat)) a b hv) (fun r130_ a130_ b130_ h130_ => ?_)
  obtain ⟨rfl, rfl⟩ := h130_
  exact hnext a b hv hg0 hg1 hg2 hg3 hg4 hg5
theorem lw_18 (E : jxE) (d : Nat) (hd : Nat.ble 60 (d + 1) = true) (hL : E.1 ≤ 3072) : ∀ n : Nat, ∀ (y3 : Int) (a b : Nat → Nat → Int), ((E.1 : Int) - y3).toNat ≤ n → 0 ≤ y3 → y3 ≤ 3078 → iv a → WFW a → SV a → OC a → FO a → FW a → FARR a → jt (jxX E d 305 18 [some (.inr (.inr (.inl 3000))), some (.inr (.inr (.inl 0))), some (.inr (.inr (.inl 146))), some (.inl y3)] [] (jxSH, a, b)) (fun v _ _ => v = [.inl 1]) := by
  refine jx_ind fun n ih => ?_
  intro y3 a b hm hy0 hy9 hv hg0 hg1 hg2 hg3 hg4 hg5 
  refine jt_eq (bq_law_18 E d y3 a b) ?_
  have hnext0 : y3 + 6 ≤ E.1 → ∀ (a b : Nat → Nat → Int) (hv : iv a) (hg0 : WFW a) (hg1 : SV a) (hg2 : OC a) (hg3 : FO a) (hg4 : FW a) (hg5 : FARR a), jt (jxX E d 305 1189 [some (.inr (.inr (.inl 3000))), some (.inr (.inr (.inl 0))), some (.inr (.inr (.inl 146))), some (.inl y3)] [] (jxSH, a, b)) (fun v _ _ => v = [.inl 1]) := fun hlt a b hv hg0 hg1 hg2 hg3 hg4 hg5  => by
    refine jt_eq (bq_law_1189 E d y3 a b) ?_
    have e : jxw (y3 + 6) = y3 + 6 := jxw_id (by omega) (by omega)
    rw [e]
    exact ih ((E.1 : Int) - (y3 + 6)).toNat (by omega) (y3 + 6) a b (Nat.le_refl _) (by omega) (by omega) hv hg0 hg1 hg2 hg3 hg4 hg5 
  refine jt_bif (Nat.ble_eq_true_of_le (by omega)) ?_
  have e6 : jxw ((E.1 : Int) - 6) = (E.1 : Int) - 6 := jxw_id (by omega) (by omega)
  refine jt_ite (fun c1 => ?_) (fun c1 => ?_)
  · exact ⟨_, _, _, rfl, rfl⟩
  ·
    have hy1 : y3 + 6 ≤ E.1 := by omega
    have hnext := hnext0 hy1
    refine jt_bif (Nat.ble_eq_true_of_le (by omega)) ?_
    refine jt_grd (by omega) ?_
    have h131_ := jxand_r (E.2 (y3.toNat)) 63 (by decide) (by decide)
    refine jt_ite (fun c132_ => ?_) (fun c132_ => ?_)
    ·
      exact hnext a b hv hg0 hg1 hg2 hg3 hg4 hg5
    ·
      refine jt_ite (fun c133_ => ?_) (fun c133_ => ?_)
      ·
        exact lw_op180 E d hd hL y3 hy0 (by omega) hnext a b hv hg0 hg1 hg2 hg3 hg4 hg5
      ·
        refine jt_ite (fun c134_ => ?_) (fun c134_ => ?_)
        ·
          exact lw_op203 E d hd hL y3 hy0 (by omega) hnext a b hv hg0 hg1 hg2 hg3 hg4 hg5
        ·
          refine jt_ite (fun c135_ => ?_) (fun c135_ => ?_)
          ·
            exact lw_op246 E d hd hL y3 hy0 (by omega) hnext a b hv hg0 hg1 hg2 hg3 hg4 hg5
          ·
            refine jt_ite (fun c136_ => ?_) (fun c136_ => ?_)
            ·
              exact lw_op289 E d hd hL y3 hy0 (by omega) hnext a b hv hg0 hg1 hg2 hg3 hg4 hg5
            ·
              refine jt_ite (fun c137_ => ?_) (fun c137_ => ?_)
              ·
                exact lw_op312 E d hd hL y3 hy0 (by omega) hnext a b hv hg0 hg1 hg2 hg3 hg4 hg5
              ·
                refine jt_ite (fun c138_ => ?_) (fun c138_ => ?_)
                ·
                  exact lw_op375 E d hd hL y3 hy0 (by omega) hnext a b hv hg0 hg1 hg2 hg3 hg4 hg5
                ·
                  refine jt_ite (fun c139_ => ?_) (fun c139_ => ?_)
                  ·
                    exact lw_op398 E d hd hL y3 hy0 (by omega) hnext a b hv hg0 hg1 hg2 hg3 hg4 hg5
                  ·
                    refine jt_ite (fun c140_ => ?_) (fun c140_ => ?_)
                    ·
                      exact lw_op421 E d hd hL y3 hy0 (by omega) hnext a b hv hg0 hg1 hg2 hg3 hg4 hg5
                    ·
                      refine jt_ite (fun c141_ => ?_) (fun c141_ => ?_)
                      ·
                        exact lw_op454 E d hd hL y3 hy0 (by omega) hnext a b hv hg0 hg1 hg2 hg3 hg4 hg5
                      ·
                        refine jt_ite (fun c142_ => ?_) (fun c142_ => ?_)
                        ·
                          exact lw_op467 E d hd hL y3 hy0 (by omega) hnext a b hv hg0 hg1 hg2 hg3 hg4 hg5
                        ·
                          refine jt_ite (fun c143_ => ?_) (fun c143_ => ?_)
                          ·
                            exact lw_op490 E d hd hL y3 hy0 (by omega) hnext a b hv hg0 hg1 hg2 hg3 hg4 hg5
                          ·
                            refine jt_ite (fun c144_ => ?_) (fun c144_ => ?_)
                            ·
                              exact lw_op523 E d hd hL y3 hy0 (by omega) hnext a b hv hg0 hg1 hg2 hg3 hg4 hg5
                            ·
                              refine jt_ite (fun c145_ => ?_) (fun c145_ => ?_)
                              ·
                                exact lw_op546 E d hd hL y3 hy0 (by omega) hnext a b hv hg0 hg1 hg2 hg3 hg4 hg5
                              ·
                                refine jt_ite (fun c146_ => ?_) (fun c146_ => ?_)
                                ·
                                  exact lw_op559 E d hd hL y3 hy0 (by omega) hnext a b hv hg0 hg1 hg2 hg3 hg4 hg5
                                ·
                                  refine jt_ite (fun c147_ => ?_) (fun c147_ => ?_)
                                  ·
                                    exact lw_op592 E d hd hL y3 hy0 (by omega) hnext a b hv hg0 hg1 hg2 hg3 hg4 hg5
                                  ·
                                    refine jt_ite (fun c148_ => ?_) (fun c148_ => ?_)
                                    ·
                                      exact lw_op615 E d hd hL y3 hy0 (by omega) hnext a b hv hg0 hg1 hg2 hg3 hg4 hg5
                                    ·
                                      refine jt_ite (fun c149_ => ?_) (fun c149_ => ?_)
                                      ·
                                        exact lw_op648 E d hd hL y3 hy0 (by omega) hnext a b hv hg0 hg1 hg2 hg3 hg4 hg5
                                      ·
                                        refine jt_ite (fun c150_ => ?_) (fun c150_ => ?_)
                                        ·
                                          exact lw_op691 E d hd hL y3 hy0 (by omega) hnext a b hv hg0 hg1 hg2 hg3 hg4 hg5
                                        ·
                                          refine jt_ite (fun c151_ => ?_) (fun c151_ => ?_)
                                          ·
                                            exact lw_op724 E d hd hL y3 hy0 (by omega) hnext a b hv hg0 hg1 hg2 hg3 hg4 hg5
                                          ·
                                            refine jt_ite (fun c152_ => ?_) (fun c152_ => ?_)
                                            ·
                                              exact lw_op747 E d hd hL y3 hy0 (by omega) hnext a b hv hg0 hg1 hg2 hg3 hg4 hg5
                                            ·
                                              refine jt_ite (fun c153_ => ?_) (fun c153_ => ?_)
                                              ·
                                                exact lw_op790 E d hd hL y3 hy0 (by omega) hnext a b hv hg0 hg1 hg2 hg3 hg4 hg5
                                              ·
                                                refine jt_ite (fun c154_ => ?_) (fun c154_ => ?_)
                                                ·
                                                  exact lw_op833 E d hd hL y3 hy0 (by omega) hnext a b hv hg0 hg1 hg2 hg3 hg4 hg5
                                                ·
                                                  refine jt_ite (fun c155_ => ?_) (fun c155_ => ?_)
                                                  ·
                                                    exact lw_op856 E d hd hL y3 hy0 (by omega) hnext a b hv hg0 hg1 hg2 hg3 hg4 hg5
                                                  ·
                                                    refine jt_ite (fun c156_ => ?_) (fun c156_ => ?_)
                                                    ·
                                                      exact lw_op869 E d hd hL y3 hy0 (by omega) hnext a b hv hg0 hg1 hg2 hg3 hg4 hg5
                                                    ·
                                                      refine jt_ite (fun c157_ => ?_) (fun c157_ => ?_)
                                                      ·
                                                        exact lw_op902 E d hd hL y3 hy0 (by omega) hnext a b hv hg0 hg1 hg2 hg3 hg4 hg5
                                                      ·
                                                        refine jt_ite (fun c158_ => ?_) (fun c158_ => ?_)
                                                        ·
                                                          exact lw_op925 E d hd hL y3 hy0 (by omega) hnext a b hv hg0 hg1 hg2 hg3 hg4 hg5
                                                        ·
                                                          refine jt_ite (fun c159_ => ?_) (fun c159_ => ?_)
                                                          ·
                                                            exact lw_op958 E d hd hL y3 hy0 (by omega) hnext a b hv hg0 hg1 hg2 hg3 hg4 hg5
                                                          ·
                                                            refine jt_ite (fun c160_ => ?_) (fun c160_ => ?_)
                                                            ·
                                                              exact lw_op991 E d hd hL y3 hy0 (by omega) hnext a b hv hg0 hg1 hg2 hg3 hg4 hg5
                                                            ·
                                                              refine jt_ite (fun c161_ => ?_) (fun c161_ => ?_)
                                                              ·
                                                                exact lw_op1014 E d hd hL y3 hy0 (by omega) hnext a b hv hg0 hg1 hg2 hg3 hg4 hg5
                                                              ·
                                                                refine jt_ite (fun c162_ => ?_) (fun c162_ => ?_)
                                                                ·
                                                                  exact lw_op1067 E d hd hL y3 hy0 (by omega) hnext a b hv hg0 hg1 hg2 hg3 hg4 hg5
                                                                ·
                                                                  refine jt_ite (fun c163_ => ?_) (fun c163_ => ?_)
                                                                  ·
                                                                    exact lw_op1110 E d hd hL y3 hy0 (by omega) hnext a b hv hg0 hg1 hg2 hg3 hg4 hg5
                                                                  ·
                                                                    refine jt_ite (fun c164_ => ?_) (fun c164_ => ?_)
                                                                    ·
                                                                      exact lw_op1143 E d hd hL y3 hy0 (by omega) hnext a b hv hg0 hg1 hg2 hg3 hg4 hg5
                                                                    ·
                                                                      refine jt_ite (fun c165_ => ?_) (fun c165_ => ?_)
                                                                      ·
                                                                        exact lw_op1166 E d hd hL y3 hy0 (by omega) hnext a b hv hg0 hg1 hg2 hg3 hg4 hg5
                                                                      ·
                                                                        exact absurd (by omega : False) id
