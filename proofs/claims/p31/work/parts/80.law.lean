theorem jt_bif {c : Bool} {X Y : Option jxR} {Q : List jxV → (Nat → Nat → Int) → (Nat → Nat → Int) → Prop} (hc : c = true) (h : jt X Q) : jt (bif c then X else Y) Q := by
  rw [hc]; exact h
theorem lw_op180 (E : jxE) (d : Nat) (hd : Nat.ble 60 (d + 1) = true) (hL : E.1 ≤ 3072) (y3 : Int) (hy0 : 0 ≤ y3) (hy1 : y3 + 6 ≤ E.1) (hnext : ∀ (a b : Nat → Nat → Int) (hv : iv a) (hg0 : WFW a) (hg1 : SV a) (hg2 : OC a) (hg3 : FO a) (hg4 : FW a), jt (jxX E d 305 1189 [some (.inr (.inr (.inl 3000))), some (.inr (.inr (.inl 0))), some (.inr (.inr (.inl 146))), some (.inl y3)] [] (jxSH, a, b)) (fun v _ _ => v = [.inl 1])) (a b : Nat → Nat → Int) (hv : iv a) (hg0 : WFW a) (hg1 : SV a) (hg2 : OC a) (hg3 : FO a) (hg4 : FW a) : jt (jxX E d 305 180 [some (.inr (.inr (.inl 3000))), some (.inr (.inr (.inl 0))), some (.inr (.inr (.inl 146))), some (.inl y3)] [] (jxSH, a, b)) (fun v _ _ => v = [.inl 1]) := by
  refine jt_eq (bq_law_180 E d y3 a b) ?_
  refine jt_bif (Nat.ble_eq_true_of_le (by omega)) ?_
  have h1_ : jxw (y3 + 1) = y3 + 1 := jxw_id (by omega) (by omega)
  refine jt_grd (by omega) ?_
  refine jt_bI (sp_X11_clock E d (jd_le hd rfl) (E.2 ((jxw (y3 + 1)).toNat)) a b hv) (fun r2_ a2_ b2_ h2_ => ?_)
  obtain ⟨hv2_, hf2_, rfl, hq2_0, hq2_1⟩ := h2_
  have h3_ := iv_get hv (k := 0) (j := 0) (l := 0) (u := 1999) rfl
  have h4_ := iv_get hv2_ (k := 0) (j := 0) (l := 0) (u := 1999) rfl
  refine jt_eq (bq_law_190 E d y3 a2_ b) ?_
  refine jt_bif (Nat.ble_eq_true_of_le (by omega)) ?_
  refine jt_grd (by omega) ?_
  refine jt_bI (sp_X12_clock E d (jd_le hd rfl) (E.2 ((jxw (y3 + 1)).toNat)) a2_ b hv2_) (fun r5_ a5_ b5_ h5_ => ?_)
  obtain ⟨hv5_, hf5_, rfl, hq5_0, hq5_1⟩ := h5_
  have h6_ := iv_get hv2_ (k := 146) (j := 0) (l := 0) (u := 1999) rfl
  have h7_ : a2_ 146 0 = a 146 0 := hf2_ 146 0 rfl
  have h8_ := iv_get hv (k := 146) (j := 0) (l := 0) (u := 1999) rfl
  have h9_ := iv_get hv5_ (k := 146) (j := 0) (l := 0) (u := 1999) rfl
  exact hnext a5_ b hv5_ (WFW_fr (WFW_fr hg0 hf2_ (fun _ => rfl) (fun _ => rfl)) hf5_ (fun _ => rfl) (fun _ => rfl)) (SV_fr (SV_fr hg1 hf2_ (fun _ => rfl) (fun _ => rfl)) hf5_ (fun _ => rfl) (fun _ => rfl)) (OC_fr (OC_fr hg2 hf2_ rfl rfl (fun _ => rfl) (fun _ => rfl) (fun _ => rfl) (fun _ => rfl) (fun _ => rfl)) hf5_ rfl rfl (fun _ => rfl) (fun _ => rfl) (fun _ => rfl) (fun _ => rfl) (fun _ => rfl)) (FO_fr (FO_fr hg3 hf2_ rfl rfl (fun _ => rfl)) hf5_ rfl rfl (fun _ => rfl)) (FW_fr (FW_fr hg4 hf2_ rfl (fun _ => rfl)) hf5_ rfl (fun _ => rfl))
theorem lw_op203 (E : jxE) (d : Nat) (hd : Nat.ble 60 (d + 1) = true) (hL : E.1 ≤ 3072) (y3 : Int) (hy0 : 0 ≤ y3) (hy1 : y3 + 6 ≤ E.1) (hnext : ∀ (a b : Nat → Nat → Int) (hv : iv a) (hg0 : WFW a) (hg1 : SV a) (hg2 : OC a) (hg3 : FO a) (hg4 : FW a), jt (jxX E d 305 1189 [some (.inr (.inr (.inl 3000))), some (.inr (.inr (.inl 0))), some (.inr (.inr (.inl 146))), some (.inl y3)] [] (jxSH, a, b)) (fun v _ _ => v = [.inl 1])) (a b : Nat → Nat → Int) (hv : iv a) (hg0 : WFW a) (hg1 : SV a) (hg2 : OC a) (hg3 : FO a) (hg4 : FW a) : jt (jxX E d 305 203 [some (.inr (.inr (.inl 3000))), some (.inr (.inr (.inl 0))), some (.inr (.inr (.inl 146))), some (.inl y3)] [] (jxSH, a, b)) (fun v _ _ => v = [.inl 1]) := by
  refine jt_eq (bq_law_203 E d y3 a b) ?_
  refine jt_bif (Nat.ble_eq_true_of_le (by omega)) ?_
  have h10_ : jxw (y3 + 1) = y3 + 1 := jxw_id (by omega) (by omega)
  refine jt_grd (by omega) ?_
  refine jt_bif (Nat.ble_eq_true_of_le (by omega)) ?_
  have h11_ : jxw (y3 + 2) = y3 + 2 := jxw_id (by omega) (by omega)
  refine jt_grd (by omega) ?_
  refine jt_bif (Nat.ble_eq_true_of_le (by omega)) ?_
  have h12_ : jxw (y3 + 3) = y3 + 3 := jxw_id (by omega) (by omega)
  refine jt_grd (by omega) ?_
  refine jt_bI (sp_X11_far E d (jd_le hd rfl) (E.2 ((jxw (y3 + 1)).toNat)) (E.2 ((jxw (y3 + 2)).toNat)) (E.2 ((jxw (y3 + 3)).toNat)) a b hv) (fun r13_ a13_ b13_ h13_ => ?_)
  obtain ⟨hv13_, hf13_, rfl, hq13_0⟩ := h13_
  refine jt_eq (bq_law_223 E d y3 a13_ b) ?_
  refine jt_bif (Nat.ble_eq_true_of_le (by omega)) ?_
  refine jt_grd (by omega) ?_
  refine jt_bif (Nat.ble_eq_true_of_le (by omega)) ?_
  refine jt_grd (by omega) ?_
  refine jt_bif (Nat.ble_eq_true_of_le (by omega)) ?_
  refine jt_grd (by omega) ?_
  refine jt_bI (sp_X12_far E d (jd_le hd rfl) (E.2 ((jxw (y3 + 1)).toNat)) (E.2 ((jxw (y3 + 2)).toNat)) (E.2 ((jxw (y3 + 3)).toNat)) a13_ b hv13_) (fun r14_ a14_ b14_ h14_ => ?_)
  obtain ⟨hv14_, hf14_, rfl, hq14_0⟩ := h14_
  refine jt_eq (bq_law_243 E d y3 a14_ b) ?_
  exact hnext a14_ b hv14_ (WFW_fr (WFW_fr hg0 hf13_ (fun _ => rfl) (fun _ => rfl)) hf14_ (fun _ => rfl) (fun _ => rfl)) (SV_fr (SV_fr hg1 hf13_ (fun _ => rfl) (fun _ => rfl)) hf14_ (fun _ => rfl) (fun _ => rfl)) (OC_fr (OC_fr hg2 hf13_ rfl rfl (fun _ => rfl) (fun _ => rfl) (fun _ => rfl) (fun _ => rfl) (fun _ => rfl)) hf14_ rfl rfl (fun _ => rfl) (fun _ => rfl) (fun _ => rfl) (fun _ => rfl) (fun _ => rfl)) (FO_fr (FO_fr hg3 hf13_ rfl rfl (fun _ => rfl)) hf14_ rfl rfl (fun _ => rfl)) (FW_fr (FW_fr hg4 hf13_ rfl (fun _ => rfl)) hf14_ rfl (fun _ => rfl))
theorem lw_op246 (E : jxE) (d : Nat) (hd : Nat.ble 60 (d + 1) = true) (hL : E.1 ≤ 3072) (y3 : Int) (hy0 : 0 ≤ y3) (hy1 : y3 + 6 ≤ E.1) (hnext : ∀ (a b : Nat → Nat → Int) (hv : iv a) (hg0 : WFW a) (hg1 : SV a) (hg2 : OC a) (hg3 : FO a) (hg4 : FW a), jt (jxX E d 305 1189 [some (.inr (.inr (.inl 3000))), some (.inr (.inr (.inl 0))), some (.inr (.inr (.inl 146))), some (.inl y3)] [] (jxSH, a, b)) (fun v _ _ => v = [.inl 1])) (a b : Nat → Nat → Int) (hv : iv a) (hg0 : WFW a) (hg1 : SV a) (hg2 : OC a) (hg3 : FO a) (hg4 : FW a) : jt (jxX E d 305 246 [some (.inr (.inr (.inl 3000))), some (.inr (.inr (.inl 0))), some (.inr (.inr (.inl 146))), some (.inl y3)] [] (jxSH, a, b)) (fun v _ _ => v = [.inl 1]) := by
  refine jt_eq (bq_law_246 E d y3 a b) ?_
  refine jt_bif (Nat.ble_eq_true_of_le (by omega)) ?_
  have h15_ : jxw (y3 + 1) = y3 + 1 := jxw_id (by omega) (by omega)
  refine jt_grd (by omega) ?_
  refine jt_bif (Nat.ble_eq_true_of_le (by omega)) ?_
  have h16_ : jxw (y3 + 2) = y3 + 2 := jxw_id (by omega) (by omega)
  refine jt_grd (by omega) ?_
  refine jt_bif (Nat.ble_eq_true_of_le (by omega)) ?_
  have h17_ : jxw (y3 + 3) = y3 + 3 := jxw_id (by omega) (by omega)
  refine jt_grd (by omega) ?_
  refine jt_bI (sp_X11_member E d (jd_le hd rfl) (E.2 ((jxw (y3 + 1)).toNat)) (E.2 ((jxw (y3 + 2)).toNat)) (E.2 ((jxw (y3 + 3)).toNat)) a b hv) (fun r18_ a18_ b18_ h18_ => ?_)
  obtain ⟨hv18_, hf18_, rfl, hq18_0⟩ := h18_
  have h19_ := iv_get hv (k := 4) (j := 6) (l := 0) (u := 40) rfl
  have h20_ := iv_get hv18_ (k := 4) (j := 6) (l := 0) (u := 40) rfl
  refine jt_eq (bq_law_266 E d y3 a18_ b) ?_
  refine jt_bif (Nat.ble_eq_true_of_le (by omega)) ?_
  refine jt_grd (by omega) ?_
  refine jt_bif (Nat.ble_eq_true_of_le (by omega)) ?_
  refine jt_grd (by omega) ?_
  refine jt_bif (Nat.ble_eq_true_of_le (by omega)) ?_
  refine jt_grd (by omega) ?_
  refine jt_bI (sp_X12_member E d (jd_le hd rfl) (E.2 ((jxw (y3 + 1)).toNat)) (E.2 ((jxw (y3 + 2)).toNat)) (E.2 ((jxw (y3 + 3)).toNat)) a18_ b hv18_) (fun r21_ a21_ b21_ h21_ => ?_)
  obtain ⟨hv21_, hf21_, rfl, hq21_0⟩ := h21_
  have h22_ := iv_get hv18_ (k := 146) (j := 2) (l := 0) (u := 40) rfl
  have h23_ : a18_ 146 2 = a 146 2 := hf18_ 146 2 rfl
  have h24_ := iv_get hv (k := 146) (j := 2) (l := 0) (u := 40) rfl
  have h25_ := iv_get hv21_ (k := 146) (j := 2) (l := 0) (u := 40) rfl
  refine jt_eq (bq_law_286 E d y3 a21_ b) ?_
  exact hnext a21_ b hv21_ (WFW_fr (WFW_fr hg0 hf18_ (fun _ => rfl) (fun _ => rfl)) hf21_ (fun _ => rfl) (fun _ => rfl)) (SV_fr (SV_fr hg1 hf18_ (fun _ => rfl) (fun _ => rfl)) hf21_ (fun _ => rfl) (fun _ => rfl)) (OC_fr (OC_fr hg2 hf18_ rfl rfl (fun _ => rfl) (fun _ => rfl) (fun _ => rfl) (fun _ => rfl) (fun _ => rfl)) hf21_ rfl rfl (fun _ => rfl) (fun _ => rfl) (fun _ => rfl) (fun _ => rfl) (fun _ => rfl)) (FO_fr (FO_fr hg3 hf18_ rfl rfl (fun _ => rfl)) hf21_ rfl rfl (fun _ => rfl)) (FW_fr (FW_fr hg4 hf18_ rfl (fun _ => rfl)) hf21_ rfl (fun _ => rfl))
theorem lw_op289 (E : jxE) (d : Nat) (hd : Nat.ble 60 (d + 1) = true) (hL : E.1 ≤ 3072) (y3 : Int) (hy0 : 0 ≤ y3) (hy1 : y3 + 6 ≤ E.1) (hnext : ∀ (a b : Nat → Nat → Int) (hv : iv a) (hg0 : WFW a) (hg1 : SV a) (hg2 : OC a) (hg3 : FO a) (hg4 : FW a), jt (jxX E d 305 1189 [some (.inr (.inr (.inl 3000))), some (.inr (.inr (.inl 0))), some (.inr (.inr (.inl 146))), some (.inl y3)] [] (jxSH, a, b)) (fun v _ _ => v = [.inl 1])) (a b : Nat → Nat → Int) (hv : iv a) (hg0 : WFW a) (hg1 : SV a) (hg2 : OC a) (hg3 : FO a) (hg4 : FW a) : jt (jxX E d 305 289 [some (.inr (.inr (.inl 3000))), some (.inr (.inr (.inl 0))), some (.inr (.inr (.inl 146))), some (.inl y3)] [] (jxSH, a, b)) (fun v _ _ => v = [.inl 1]) := by
  refine jt_eq (bq_law_289 E d y3 a b) ?_
  refine jt_bif (Nat.ble_eq_true_of_le (by omega)) ?_
  have h26_ : jxw (y3 + 1) = y3 + 1 := jxw_id (by omega) (by omega)
  refine jt_grd (by omega) ?_
  refine jt_bI (sp_X11_leave E d (jd_le hd rfl) (E.2 ((jxw (y3 + 1)).toNat)) a b hv) (fun r27_ a27_ b27_ h27_ => ?_)
  obtain ⟨hv27_, hf27_, rfl⟩ := h27_
  refine jt_eq (bq_law_299 E d y3 a27_ b) ?_
  refine jt_bif (Nat.ble_eq_true_of_le (by omega)) ?_
  refine jt_grd (by omega) ?_
  refine jt_bI (sp_X12_leave E d (jd_le hd rfl) (E.2 ((jxw (y3 + 1)).toNat)) a27_ b hv27_ (OC_fr hg2 hf27_ rfl rfl (fun _ => rfl) (fun _ => rfl) (fun _ => rfl) (fun _ => rfl) (fun _ => rfl))) (fun r28_ a28_ b28_ h28_ => ?_)
  obtain ⟨hv28_, hf28_, rfl, hq28_0⟩ := h28_
  exact hnext a28_ b hv28_ (WFW_fr (WFW_fr hg0 hf27_ (fun _ => rfl) (fun _ => rfl)) hf28_ (fun _ => rfl) (fun _ => rfl)) (SV_fr (SV_fr hg1 hf27_ (fun _ => rfl) (fun _ => rfl)) hf28_ (fun _ => rfl) (fun _ => rfl)) hq28_0 (FO_fr (FO_fr hg3 hf27_ rfl rfl (fun _ => rfl)) hf28_ rfl rfl (fun _ => rfl)) (FW_fr (FW_fr hg4 hf27_ rfl (fun _ => rfl)) hf28_ rfl (fun _ => rfl))
theorem lw_op312 (E : jxE) (d : Nat) (hd : Nat.ble 60 (d + 1) = true) (hL : E.1 ≤ 3072) (y3 : Int) (hy0 : 0 ≤ y3) (hy1 : y3 + 6 ≤ E.1) (hnext : ∀ (a b : Nat → Nat → Int) (hv : iv a) (hg0 : WFW a) (hg1 : SV a) (hg2 : OC a) (hg3 : FO a) (hg4 : FW a), jt (jxX E d 305 1189 [some (.inr (.inr (.inl 3000))), some (.inr (.inr (.inl 0))), some (.inr (.inr (.inl 146))), some (.inl y3)] [] (jxSH, a, b)) (fun v _ _ => v = [.inl 1])) (a b : Nat → Nat → Int) (hv : iv a) (hg0 : WFW a) (hg1 : SV a) (hg2 : OC a) (hg3 : FO a) (hg4 : FW a) : jt (jxX E d 305 312 [some (.inr (.inr (.inl 3000))), some (.inr (.inr (.inl 0))), some (.inr (.inr (.inl 146))), some (.inl y3)] [] (jxSH, a, b)) (fun v _ _ => v = [.inl 1]) := by
  refine jt_eq (bq_law_312 E d y3 a b) ?_
  refine jt_bif (Nat.ble_eq_true_of_le (by omega)) ?_
  have h29_ : jxw (y3 + 1) = y3 + 1 := jxw_id (by omega) (by omega)
  refine jt_grd (by omega) ?_
  refine jt_bif (Nat.ble_eq_true_of_le (by omega)) ?_
  have h30_ : jxw (y3 + 2) = y3 + 2 := jxw_id (by omega) (by omega)
  refine jt_grd (by omega) ?_
  refine jt_bif (Nat.ble_eq_true_of_le (by omega)) ?_
  have h31_ : jxw (y3 + 3) = y3 + 3 := jxw_id (by omega) (by omega)
  refine jt_grd (by omega) ?_
  refine jt_bif (Nat.ble_eq_true_of_le (by omega)) ?_
  have h32_ : jxw (y3 + 4) = y3 + 4 := jxw_id (by omega) (by omega)
  refine jt_grd (by omega) ?_
  refine jt_bif (Nat.ble_eq_true_of_le (by omega)) ?_
  have h33_ : jxw (y3 + 5) = y3 + 5 := jxw_id (by omega) (by omega)
  refine jt_grd (by omega) ?_
  refine jt_bI (sp_X11_feed E d (jd_le hd rfl) (E.2 ((jxw (y3 + 1)).toNat)) (E.2 ((jxw (y3 + 2)).toNat)) (E.2 ((jxw (y3 + 3)).toNat)) (E.2 ((jxw (y3 + 4)).toNat)) (E.2 ((jxw (y3 + 5)).toNat)) a b hv) (fun r34_ a34_ b34_ h34_ => ?_)
  obtain ⟨hv34_, hf34_, rfl⟩ := h34_
  refine jt_eq (bq_law_342 E d y3 a34_ b) ?_
  refine jt_bif (Nat.ble_eq_true_of_le (by omega)) ?_
  refine jt_grd (by omega) ?_
  refine jt_bif (Nat.ble_eq_true_of_le (by omega)) ?_
  refine jt_grd (by omega) ?_
  refine jt_bif (Nat.ble_eq_true_of_le (by omega)) ?_
  refine jt_grd (by omega) ?_
  refine jt_bif (Nat.ble_eq_true_of_le (by omega)) ?_
  refine jt_grd (by omega) ?_
  refine jt_bif (Nat.ble_eq_true_of_le (by omega)) ?_
  refine jt_grd (by omega) ?_
  refine jt_bI (sp_X12_feed E d (jd_le hd rfl) (E.2 ((jxw (y3 + 1)).toNat)) (E.2 ((jxw (y3 + 2)).toNat)) (E.2 ((jxw (y3 + 3)).toNat)) (E.2 ((jxw (y3 + 4)).toNat)) (E.2 ((jxw (y3 + 5)).toNat)) a34_ b hv34_) (fun r35_ a35_ b35_ h35_ => ?_)
  obtain ⟨hv35_, hf35_, rfl⟩ := h35_
  refine jt_eq (bq_law_372 E d y3 a35_ b) ?_
  exact hnext a35_ b hv35_ (WFW_fr (WFW_fr hg0 hf34_ (fun _ => rfl) (fun _ => rfl)) hf35_ (fun _ => rfl) (fun _ => rfl)) (SV_fr (SV_fr hg1 hf34_ (fun _ => rfl) (fun _ => rfl)) hf35_ (fun _ => rfl) (fun _ => rfl)) (OC_fr (OC_fr hg2 hf34_ rfl rfl (fun _ => rfl) (fun _ => rfl) (fun _ => rfl) (fun _ => rfl) (fun _ => rfl)) hf35_ rfl rfl (fun _ => rfl) (fun _ => rfl) (fun _ => rfl) (fun _ => rfl) (fun _ => rfl)) (FO_fr (FO_fr hg3 hf34_ rfl rfl (fun _ => rfl)) hf35_ rfl rfl (fun _ => rfl)) (FW_fr (FW_fr hg4 hf34_ rfl (fun _ => rfl)) hf35_ rfl (fun _ => rfl))
theorem lw_op375 (E : jxE) (d : Nat) (hd : Nat.ble 60 (d + 1) = true) (hL : E.1 ≤ 3072) (y3 : Int) (hy0 : 0 ≤ y3) (hy1 : y3 + 6 ≤ E.1) (hnext : ∀ (a b : Nat → Nat → Int) (hv : iv a) (hg0 : WFW a) (hg1 : SV a) (hg2 : OC a) (hg3 : FO a) (hg4 : FW a), jt (jxX E d 305 1189 [some (.inr (.inr (.inl 3000))), some (.inr (.inr (.inl 0))), some (.inr (.inr (.inl 146))), some (.inl y3)] [] (jxSH, a, b)) (fun v _ _ => v = [.inl 1])) (a b : Nat → Nat → Int) (hv : iv a) (hg0 : WFW a) (hg1 : SV a) (hg2 : OC a) (hg3 : FO a) (hg4 : FW a) : jt (jxX E d 305 375 [some (.inr (.inr (.inl 3000))), some (.inr (.inr (.inl 0))), some (.inr (.inr (.inl 146))), some (.inl y3)] [] (jxSH, a, b)) (fun v _ _ => v = [.inl 1]) := by
  refine jt_eq (bq_law_375 E d y3 a b) ?_
  refine jt_bif (Nat.ble_eq_true_of_le (by omega)) ?_
  have h36_ : jxw (y3 + 1) = y3 + 1 := jxw_id (by omega) (by omega)
  refine jt_grd (by omega) ?_
  refine jt_bI (sp_X11_end E d (jd_le hd rfl) (E.2 ((jxw (y3 + 1)).toNat)) a b hv) (fun r37_ a37_ b37_ h37_ => ?_)
  obtain ⟨hv37_, hf37_, rfl⟩ := h37_
  refine jt_eq (bq_law_385 E d y3 a37_ b) ?_
  refine jt_bif (Nat.ble_eq_true_of_le (by omega)) ?_
  refine jt_grd (by omega) ?_
  refine jt_bI (sp_X12_end E d (jd_le hd rfl) (E.2 ((jxw (y3 + 1)).toNat)) a37_ b hv37_) (fun r38_ a38_ b38_ h38_ => ?_)
  obtain ⟨hv38_, hf38_, rfl⟩ := h38_
  exact hnext a38_ b hv38_ (WFW_fr (WFW_fr hg0 hf37_ (fun _ => rfl) (fun _ => rfl)) hf38_ (fun _ => rfl) (fun _ => rfl)) (SV_fr (SV_fr hg1 hf37_ (fun _ => rfl) (fun _ => rfl)) hf38_ (fun _ => rfl) (fun _ => rfl)) (OC_fr (OC_fr hg2 hf37_ rfl rfl (fun _ => rfl) (fun _ => rfl) (fun _ => rfl) (fun _ => rfl) (fun _ => rfl)) hf38_ rfl rfl (fun _ => rfl) (fun _ => rfl) (fun _ => rfl) (fun _ => rfl) (fun _ => rfl)) (FO_fr (FO_fr hg3 hf37_ rfl rfl (fun _ => rfl)) hf38_ rfl rfl (fun _ => rfl)) (FW_fr (FW_fr hg4 hf37_ rfl (fun _ => rfl)) hf38_ rfl (fun _ => rfl))
theorem lw_op398 (E : jxE) (d : Nat) (hd : Nat.ble 60 (d + 1) = true) (hL : E.1 ≤ 3072) (y3 : Int) (hy0 : 0 ≤ y3) (hy1 : y3 + 6 ≤ E.1) (hnext : ∀ (a b : Nat → Nat → Int) (hv : iv a) (hg0 : WFW a) (hg1 : SV a) (hg2 : OC a) (hg3 : FO a) (hg4 : FW a), jt (jxX E d 305 1189 [some (.inr (.inr (.inl 3000))), some (.inr (.inr (.inl 0))), some (.inr (.inr (.inl 146))), some (.inl y3)] [] (jxSH, a, b)) (fun v _ _ => v = [.inl 1])) (a b : Nat → Nat → Int) (hv : iv a) (hg0 : WFW a) (hg1 : SV a) (hg2 : OC a) (hg3 : FO a) (hg4 : FW a) : jt (jxX E d 305 398 [some (.inr (.inr (.inl 3000))), some (.inr (.inr (.inl 0))), some (.inr (.inr (.inl 146))), some (.inl y3)] [] (jxSH, a, b)) (fun v _ _ => v = [.inl 1]) := by
  refine jt_eq (bq_law_398 E d y3 a b) ?_
  refine jt_bif (Nat.ble_eq_true_of_le (by omega)) ?_
  have h39_ : jxw (y3 + 1) = y3 + 1 := jxw_id (by omega) (by omega)
  refine jt_grd (by omega) ?_
  refine jt_bI (sp_X11_wish E d (jd_le hd rfl) (E.2 ((jxw (y3 + 1)).toNat)) a b hv) (fun r40_ a40_ b40_ h40_ => ?_)
  obtain ⟨hv40_, hf40_, rfl⟩ := h40_
  refine jt_eq (bq_law_408 E d y3 a40_ b) ?_
  refine jt_bif (Nat.ble_eq_true_of_le (by omega)) ?_
  refine jt_grd (by omega) ?_
  refine jt_bI (sp_X12_wish E d (jd_le hd rfl) (E.2 ((jxw (y3 + 1)).toNat)) a40_ b hv40_ (WFW_fr hg0 hf40_ (fun _ => rfl) (fun _ => rfl))) (fun r41_ a41_ b41_ h41_ => ?_)
  obtain ⟨hv41_, hf41_, rfl, hq41_0⟩ := h41_
  exact hnext a41_ b hv41_ hq41_0 (SV_fr (SV_fr hg1 hf40_ (fun _ => rfl) (fun _ => rfl)) hf41_ (fun _ => rfl) (fun _ => rfl)) (OC_fr (OC_fr hg2 hf40_ rfl rfl (fun _ => rfl) (fun _ => rfl) (fun _ => rfl) (fun _ => rfl) (fun _ => rfl)) hf41_ rfl rfl (fun _ => rfl) (fun _ => rfl) (fun _ => rfl) (fun _ => rfl) (fun _ => rfl)) (FO_fr (FO_fr hg3 hf40_ rfl rfl (fun _ => rfl)) hf41_ rfl rfl (fun _ => rfl)) (FW_fr (FW_fr hg4 hf40_ rfl (fun _ => rfl)) hf41_ rfl (fun _ => rfl))
theorem lw_op421 (E : jxE) (d : Nat) (hd : Nat.ble 60 (d + 1) = true) (hL : E.1 ≤ 3072) (y3 : Int) (hy0 : 0 ≤ y3) (hy1 : y3 + 6 ≤ E.1) (hnext : ∀ (a b : Nat → Nat → Int) (hv : iv a) (hg0 : WFW a) (hg1 : SV a) (hg2 : OC a) (hg3 : FO a) (hg4 : FW a), jt (jxX E d 305 1189 [some (.inr (.inr (.inl 3000))), some (.inr (.inr (.inl 0))), some (.inr (.inr (.inl 146))), some (.inl y3)] [] (jxSH, a, b)) (fun v _ _ => v = [.inl 1])) (a b : Nat → Nat → Int) (hv : iv a) (hg0 : WFW a) (hg1 : SV a) (hg2 : OC a) (hg3 : FO a) (hg4 : FW a) : jt (jxX E d 305 421 [some (.inr (.inr (.inl 3000))), some (.inr (.inr (.inl 0))), some (.inr (.inr (.inl 146))), some (.inl y3)] [] (jxSH, a, b)) (fun v _ _ => v = [.inl 1]) := by
  refine jt_eq (bq_law_421 E d y3 a b) ?_
  refine jt_bif (Nat.ble_eq_true_of_le (by omega)) ?_
  have h42_ : jxw (y3 + 1) = y3 + 1 := jxw_id (by omega) (by omega)
  refine jt_grd (by omega) ?_
  refine jt_bif (Nat.ble_eq_true_of_le (by omega)) ?_
  have h43_ : jxw (y3 + 2) = y3 + 2 := jxw_id (by omega) (by omega)
  refine jt_grd (by omega) ?_
  refine jt_bI (sp_X11_meets E d (jd_le hd rfl) (E.2 ((jxw (y3 + 1)).toNat)) (E.2 ((jxw (y3 + 2)).toNat)) a b hv) (fun r44_ a44_ b44_ h44_ => ?_)
  obtain ⟨rfl, rfl⟩ := h44_
  refine jt_eq (bq_law_436 E d y3 a b) ?_
  refine jt_bif (Nat.ble_eq_true_of_le (by omega)) ?_
  refine jt_grd (by omega) ?_
  refine jt_bif (Nat.ble_eq_true_of_le (by omega)) ?_
  refine jt_grd (by omega) ?_
  refine jt_bI (sp_X12_meets E d (jd_le hd rfl) (E.2 ((jxw (y3 + 1)).toNat)) (E.2 ((jxw (y3 + 2)).toNat)) a b hv hg0) (fun r45_ a45_ b45_ h45_ => ?_)
  obtain ⟨hv45_, hf45_, rfl⟩ := h45_
  exact hnext a45_ b hv45_ (WFW_fr hg0 hf45_ (fun _ => rfl) (fun _ => rfl)) (SV_fr hg1 hf45_ (fun _ => rfl) (fun _ => rfl)) (OC_fr hg2 hf45_ rfl rfl (fun _ => rfl) (fun _ => rfl) (fun _ => rfl) (fun _ => rfl) (fun _ => rfl)) (FO_fr hg3 hf45_ rfl rfl (fun _ => rfl)) (FW_fr hg4 hf45_ rfl (fun _ => rfl))
theorem lw_op454 (E : jxE) (d : Nat) (hd : Nat.ble 60 (d + 1) = true) (hL : E.1 ≤ 3072) (y3 : Int) (hy0 : 0 ≤ y3) (hy1 : y3 + 6 ≤ E.1) (hnext : ∀ (a b : Nat → Nat → Int) (hv : iv a) (hg0 : WFW a) (hg1 : SV a) (hg2 : OC a) (hg3 : FO a) (hg4 : FW a), jt (jxX E d 305 1189 [some (.inr (.inr (.inl 3000))), some (.inr (.inr (.inl 0))), some (.inr (.inr (.inl 146))), some (.inl y3)] [] (jxSH, a, b)) (fun v _ _ => v = [.inl 1])) (a b : Nat → Nat → Int) (hv : iv a) (hg0 : WFW a) (hg1 : SV a) (hg2 : OC a) (hg3 : FO a) (hg4 : FW a) : jt (jxX E d 305 454 [some (.inr (.inr (.inl 3000))), some (.inr (.inr (.inl 0))), some (.inr (.inr (.inl 146))), some (.inl y3)] [] (jxSH, a, b)) (fun v _ _ => v = [.inl 1]) := by
  refine jt_eq (bq_law_454 E d y3 a b) ?_
  refine jt_bI (sp_X11_rules E d (jd_le hd rfl) a b hv) (fun r46_ a46_ b46_ h46_ => ?_)
  obtain ⟨hv46_, hf46_, rfl⟩ := h46_
  refine jt_eq (bq_law_459 E d y3 a46_ b) ?_
  refine jt_bI (sp_X12_rules E d (jd_le hd rfl) a46_ b hv46_) (fun r47_ a47_ b47_ h47_ => ?_)
  obtain ⟨hv47_, hf47_, rfl⟩ := h47_
  exact hnext a47_ b hv47_ (WFW_fr (WFW_fr hg0 hf46_ (fun _ => rfl) (fun _ => rfl)) hf47_ (fun _ => rfl) (fun _ => rfl)) (SV_fr (SV_fr hg1 hf46_ (fun _ => rfl) (fun _ => rfl)) hf47_ (fun _ => rfl) (fun _ => rfl)) (OC_fr (OC_fr hg2 hf46_ rfl rfl (fun _ => rfl) (fun _ => rfl) (fun _ => rfl) (fun _ => rfl) (fun _ => rfl)) hf47_ rfl rfl (fun _ => rfl) (fun _ => rfl) (fun _ => rfl) (fun _ => rfl) (fun _ => rfl)) (FO_fr (FO_fr hg3 hf46_ rfl rfl (fun _ => rfl)) hf47_ rfl rfl (fun _ => rfl)) (FW_fr (FW_fr hg4 hf46_ rfl (fun _ => rfl)) hf47_ rfl (fun _ => rfl))
theorem lw_op467 (E : jxE) (d : Nat) (hd : Nat.ble 60 (d + 1) = true) (hL : E.1 ≤ 3072) (y3 : Int) (hy0 : 0 ≤ y3) (hy1 : y3 + 6 ≤ E.1) (hnext : ∀ (a b : Nat → Nat → Int) (hv : iv a) (hg0 : WFW a) (hg1 : SV a) (hg2 : OC a) (hg3 : FO a) (hg4 : FW a), jt (jxX E d 305 1189 [some (.inr (.inr (.inl 3000))), some (.inr (.inr (.inl 0))), some (.inr (.inr (.inl 146))), some (.inl y3)] [] (jxSH, a, b)) (fun v _ _ => v = [.inl 1])) (a b : Nat → Nat → Int) (hv : iv a) (hg0 : WFW a) (hg1 : SV a) (hg2 : OC a) (hg3 : FO a) (hg4 : FW a) : jt (jxX E d 305 467 [some (.inr (.inr (.inl 3000))), some (.inr (.inr (.inl 0))), some (.inr (.inr (.inl 146))), some (.inl y3)] [] (jxSH, a, b)) (fun v _ _ => v = [.inl 1]) := by
  refine jt_eq (bq_law_467 E d y3 a b) ?_
  refine jt_bif (Nat.ble_eq_true_of_le (by omega)) ?_
  have h48_ : jxw (y3 + 1) = y3 + 1 := jxw_id (by omega) (by omega)
  refine jt_grd (by omega) ?_
  refine jt_bI (sp_X11_ask E d (jd_le hd rfl) (E.2 ((jxw (y3 + 1)).toNat)) a b hv) (fun r49_ a49_ b49_ h49_ => ?_)
  obtain ⟨hv49_, hf49_, rfl⟩ := h49_
  refine jt_eq (bq_law_477 E d y3 a49_ b) ?_
  refine jt_bif (Nat.ble_eq_true_of_le (by omega)) ?_
  refine jt_grd (by omega) ?_
  refine jt_bI (sp_X12_ask E d (jd_le hd rfl) (E.2 ((jxw (y3 + 1)).toNat)) a49_ b hv49_ (WFW_fr hg0 hf49_ (fun _ => rfl) (fun _ => rfl)) (OC_fr hg2 hf49_ rfl rfl (fun _ => rfl) (fun _ => rfl) (fun _ => rfl) (fun _ => rfl) (fun _ => rfl))) (fun r50_ a50_ b50_ h50_ => ?_)
  obtain ⟨hv50_, hf50_, rfl, hq50_0⟩ := h50_
  exact hnext a50_ b hv50_ (WFW_fr (WFW_fr hg0 hf49_ (fun _ => rfl) (fun _ => rfl)) hf50_ (fun _ => rfl) (fun _ => rfl)) (SV_fr (SV_fr hg1 hf49_ (fun _ => rfl) (fun _ => rfl)) hf50_ (fun _ => rfl) (fun _ => rfl)) hq50_0 (FO_fr (FO_fr hg3 hf49_ rfl rfl (fun _ => rfl)) hf50_ rfl rfl (fun _ => rfl)) (FW_fr (FW_fr hg4 hf49_ rfl (fun _ => rfl)) hf50_ rfl (fun _ => rfl))
theorem lw_op490 (E : jxE) (d : Nat) (hd : Nat.ble 60 (d + 1) = true) (hL : E.1 ≤ 3072) (y3 : Int) (hy0 : 0 ≤ y3) (hy1 : y3 + 6 ≤ E.1) (hnext : ∀ (a b : Nat → Nat → Int) (hv : iv a) (hg0 : WFW a) (hg1 : SV a) (hg2 : OC a) (hg3 : FO a) (hg4 : FW a), jt (jxX E d 305 1189 [some (.inr (.inr (.inl 3000))), some (.inr (.inr (.inl 0))), some (.inr (.inr (.inl 146))), some (.inl y3)] [] (jxSH, a, b)) (fun v _ _ => v = [.inl 1])) (a b : Nat → Nat → Int) (hv : iv a) (hg0 : WFW a) (hg1 : SV a) (hg2 : OC a) (hg3 : FO a) (hg4 : FW a) : jt (jxX E d 305 490 [some (.inr (.inr (.inl 3000))), some (.inr (.inr (.inl 0))), some (.inr (.inr (.inl 146))), some (.inl y3)] [] (jxSH, a, b)) (fun v _ _ => v = [.inl 1]) := by
  refine jt_eq (bq_law_490 E d y3 a b) ?_
  refine jt_bif (Nat.ble_eq_true_of_le (by omega)) ?_
  have h51_ : jxw (y3 + 1) = y3 + 1 := jxw_id (by omega) (by omega)
  refine jt_grd (by omega) ?_
  refine jt_bif (Nat.ble_eq_true_of_le (by omega)) ?_
  have h52_ : jxw (y3 + 2) = y3 + 2 := jxw_id (by omega) (by omega)
  refine jt_grd (by omega) ?_
  refine jt_bI (sp_X11_may E d (jd_le hd rfl) (E.2 ((jxw (y3 + 1)).toNat)) (E.2 ((jxw (y3 + 2)).toNat)) a b hv) (fun r53_ a53_ b53_ h53_ => ?_)
  obtain ⟨hv53_, hf53_, rfl⟩ := h53_
  refine jt_eq (bq_law_505 E d y3 a53_ b) ?_
  refine jt_bif (Nat.ble_eq_true_of_le (by omega)) ?_
  refine jt_grd (by omega) ?_
  refine jt_bif (Nat.ble_eq_true_of_le (by omega)) ?_
  refine jt_grd (by omega) ?_
  refine jt_bI (sp_X12_may E d (jd_le hd rfl) (E.2 ((jxw (y3 + 1)).toNat)) (E.2 ((jxw (y3 + 2)).toNat)) a53_ b hv53_ (WFW_fr hg0 hf53_ (fun _ => rfl) (fun _ => rfl))) (fun r54_ a54_ b54_ h54_ => ?_)
  obtain ⟨hv54_, hf54_, rfl⟩ := h54_
  exact hnext a54_ b hv54_ (WFW_fr (WFW_fr hg0 hf53_ (fun _ => rfl) (fun _ => rfl)) hf54_ (fun _ => rfl) (fun _ => rfl)) (SV_fr (SV_fr hg1 hf53_ (fun _ => rfl) (fun _ => rfl)) hf54_ (fun _ => rfl) (fun _ => rfl)) (OC_fr (OC_fr hg2 hf53_ rfl rfl (fun _ => rfl) (fun _ => rfl) (fun _ => rfl) (fun _ => rfl) (fun _ => rfl)) hf54_ rfl rfl (fun _ => rfl) (fun _ => rfl) (fun _ => rfl) (fun _ => rfl) (fun _ => rfl)) (FO_fr (FO_fr hg3 hf53_ rfl rfl (fun _ => rfl)) hf54_ rfl rfl (fun _ => rfl)) (FW_fr (FW_fr hg4 hf53_ rfl (fun _ => rfl)) hf54_ rfl (fun _ => rfl))
theorem lw_op523 (E : jxE) (d : Nat) (hd : Nat.ble 60 (d + 1) = true) (hL : E.1 ≤ 3072) (y3 : Int) (hy0 : 0 ≤ y3) (hy1 : y3 + 6 ≤ E.1) (hnext : ∀ (a b : Nat → Nat → Int) (hv : iv a) (hg0 : WFW a) (hg1 : SV a) (hg2 : OC a) (hg3 : FO a) (hg4 : FW a), jt (jxX E d 305 1189 [some (.inr (.inr (.inl 3000))), some (.inr (.inr (.inl 0))), some (.inr (.inr (.inl 146))), some (.inl y3)] [] (jxSH, a, b)) (fun v _ _ => v = [.inl 1])) (a b : Nat → Nat → Int) (hv : iv a) (hg0 : WFW a) (hg1 : SV a) (hg2 : OC a) (hg3 : FO a) (hg4 : FW a) : jt (jxX E d 305 523 [some (.inr (.inr (.inl 3000))), some (.inr (.inr (.inl 0))), some (.inr (.inr (.inl 146))), some (.inl y3)] [] (jxSH, a, b)) (fun v _ _ => v = [.inl 1]) := by
  refine jt_eq (bq_law_523 E d y3 a b) ?_
  refine jt_bif (Nat.ble_eq_true_of_le (by omega)) ?_
  have h55_ : jxw (y3 + 1) = y3 + 1 := jxw_id (by omega) (by omega)
  refine jt_grd (by omega) ?_
  refine jt_bI (sp_X11_list E d (jd_le hd rfl) (E.2 ((jxw (y3 + 1)).toNat)) a b hv) (fun r56_ a56_ b56_ h56_ => ?_)
  obtain ⟨hv56_, hf56_, rfl⟩ := h56_
  refine jt_eq (bq_law_533 E d y3 a56_ b) ?_
  refine jt_bif (Nat.ble_eq_true_of_le (by omega)) ?_
  refine jt_grd (by omega) ?_
  refine jt_bI (sp_X12_list E d (jd_le hd rfl) (E.2 ((jxw (y3 + 1)).toNat)) a56_ b hv56_) (fun r57_ a57_ b57_ h57_ => ?_)
  obtain ⟨hv57_, hf57_, rfl⟩ := h57_
  exact hnext a57_ b hv57_ (WFW_fr (WFW_fr hg0 hf56_ (fun _ => rfl) (fun _ => rfl)) hf57_ (fun _ => rfl) (fun _ => rfl)) (SV_fr (SV_fr hg1 hf56_ (fun _ => rfl) (fun _ => rfl)) hf57_ (fun _ => rfl) (fun _ => rfl)) (OC_fr (OC_fr hg2 hf56_ rfl rfl (fun _ => rfl) (fun _ => rfl) (fun _ => rfl) (fun _ => rfl) (fun _ => rfl)) hf57_ rfl rfl (fun _ => rfl) (fun _ => rfl) (fun _ => rfl) (fun _ => rfl) (fun _ => rfl)) (FO_fr (FO_fr hg3 hf56_ rfl rfl (fun _ => rfl)) hf57_ rfl rfl (fun _ => rfl)) (FW_fr (FW_fr hg4 hf56_ rfl (fun _ => rfl)) hf57_ rfl (fun _ => rfl))
theorem lw_op546 (E : jxE) (d : Nat) (hd : Nat.ble 60 (d + 1) = true) (hL : E.1 ≤ 3072) (y3 : Int) (hy0 : 0 ≤ y3) (hy1 : y3 + 6 ≤ E.1) (hnext : ∀ (a b : Nat → Nat → Int) (hv : iv a) (hg0 : WFW a) (hg1 : SV a) (hg2 : OC a) (hg3 : FO a) (hg4 : FW a), jt (jxX E d 305 1189 [some (.inr (.inr (.inl 3000))), some (.inr (.inr (.inl 0))), some (.inr (.inr (.inl 146))), some (.inl y3)] [] (jxSH, a, b)) (fun v _ _ => v = [.inl 1])) (a b : Nat → Nat → Int) (hv : iv a) (hg0 : WFW a) (hg1 : SV a) (hg2 : OC a) (hg3 : FO a) (hg4 : FW a) : jt (jxX E d 305 546 [some (.inr (.inr (.inl 3000))), some (.inr (.inr (.inl 0))), some (.inr (.inr (.inl 146))), some (.inl y3)] [] (jxSH, a, b)) (fun v _ _ => v = [.inl 1]) := by
  refine jt_eq (bq_law_546 E d y3 a b) ?_
  refine jt_bI (sp_X11_give E d (jd_le hd rfl) a b hv) (fun r58_ a58_ b58_ h58_ => ?_)
  obtain ⟨hv58_, hf58_⟩ := h58_
  refine jt_eq (bq_law_551 E d y3 a58_ b58_) ?_
  refine jt_bI (sp_X12_give E d (jd_le hd rfl) a58_ b58_ hv58_ (WFW_fr hg0 hf58_ (fun _ => rfl) (fun _ => rfl)) (OC_fr hg2 hf58_ rfl rfl (fun _ => rfl) (fun _ => rfl) (fun _ => rfl) (fun _ => rfl) (fun _ => rfl))) (fun r59_ a59_ b59_ h59_ => ?_)
  obtain ⟨hv59_, hf59_, hq59_0⟩ := h59_
  exact hnext a59_ b59_ hv59_ (WFW_fr (WFW_fr hg0 hf58_ (fun _ => rfl) (fun _ => rfl)) hf59_ (fun _ => rfl) (fun _ => rfl)) (SV_fr (SV_fr hg1 hf58_ (fun _ => rfl) (fun _ => rfl)) hf59_ (fun _ => rfl) (fun _ => rfl)) hq59_0 (FO_fr (FO_fr hg3 hf58_ rfl rfl (fun _ => rfl)) hf59_ rfl rfl (fun _ => rfl)) (FW_fr (FW_fr hg4 hf58_ rfl (fun _ => rfl)) hf59_ rfl (fun _ => rfl))
theorem lw_op559 (E : jxE) (d : Nat) (hd : Nat.ble 60 (d + 1) = true) (hL : E.1 ≤ 3072) (y3 : Int) (hy0 : 0 ≤ y3) (hy1 : y3 + 6 ≤ E.1) (hnext : ∀ (a b : Nat → Nat → Int) (hv : iv a) (hg0 : WFW a) (hg1 : SV a) (hg2 : OC a) (hg3 : FO a) (hg4 : FW a), jt (jxX E d 305 1189 [some (.inr (.inr (.inl 3000))), some (.inr (.inr (.inl 0))), some (.inr (.inr (.inl 146))), some (.inl y3)] [] (jxSH, a, b)) (fun v _ _ => v = [.inl 1])) (a b : Nat → Nat → Int) (hv : iv a) (hg0 : WFW a) (hg1 : SV a) (hg2 : OC a) (hg3 : FO a) (hg4 : FW a) : jt (jxX E d 305 559 [some (.inr (.inr (.inl 3000))), some (.inr (.inr (.inl 0))), some (.inr (.inr (.inl 146))), some (.inl y3)] [] (jxSH, a, b)) (fun v _ _ => v = [.inl 1]) := by
  refine jt_eq (bq_law_559 E d y3 a b) ?_
  refine jt_bif (Nat.ble_eq_true_of_le (by omega)) ?_
  have h60_ : jxw (y3 + 1) = y3 + 1 := jxw_id (by omega) (by omega)
  refine jt_grd (by omega) ?_
  refine jt_bif (Nat.ble_eq_true_of_le (by omega)) ?_
  have h61_ : jxw (y3 + 2) = y3 + 2 := jxw_id (by omega) (by omega)
  refine jt_grd (by omega) ?_
  refine jt_bI (sp_X11_arrive E d (jd_le hd rfl) (E.2 ((jxw (y3 + 1)).toNat)) (E.2 ((jxw (y3 + 2)).toNat)) a b hv) (fun r62_ a62_ b62_ h62_ => ?_)
  obtain ⟨hv62_, hf62_, rfl, hq62_0⟩ := h62_
  refine jt_eq (bq_law_574 E d y3 a62_ b) ?_
  refine jt_bif (Nat.ble_eq_true_of_le (by omega)) ?_
  refine jt_grd (by omega) ?_
  refine jt_bif (Nat.ble_eq_true_of_le (by omega)) ?_
  refine jt_grd (by omega) ?_
  refine jt_bI (sp_X12_arrive E d (jd_le hd rfl) (E.2 ((jxw (y3 + 1)).toNat)) (E.2 ((jxw (y3 + 2)).toNat)) a62_ b hv62_) (fun r63_ a63_ b63_ h63_ => ?_)
  obtain ⟨hv63_, hf63_, rfl, hq63_0⟩ := h63_
  exact hnext a63_ b hv63_ (WFW_fr (WFW_fr hg0 hf62_ (fun _ => rfl) (fun _ => rfl)) hf63_ (fun _ => rfl) (fun _ => rfl)) (SV_fr (SV_fr hg1 hf62_ (fun _ => rfl) (fun _ => rfl)) hf63_ (fun _ => rfl) (fun _ => rfl)) (OC_fr (OC_fr hg2 hf62_ rfl rfl (fun _ => rfl) (fun _ => rfl) (fun _ => rfl) (fun _ => rfl) (fun _ => rfl)) hf63_ rfl rfl (fun _ => rfl) (fun _ => rfl) (fun _ => rfl) (fun _ => rfl) (fun _ => rfl)) (FO_fr (FO_fr hg3 hf62_ rfl rfl (fun _ => rfl)) hf63_ rfl rfl (fun _ => rfl)) (FW_fr (FW_fr hg4 hf62_ rfl (fun _ => rfl)) hf63_ rfl (fun _ => rfl))
theorem lw_op592 (E : jxE) (d : Nat) (hd : Nat.ble 60 (d + 1) = true) (hL : E.1 ≤ 3072) (y3 : Int) (hy0 : 0 ≤ y3) (hy1 : y3 + 6 ≤ E.1) (hnext : ∀ (a b : Nat → Nat → Int) (hv : iv a) (hg0 : WFW a) (hg1 : SV a) (hg2 : OC a) (hg3 : FO a) (hg4 : FW a), jt (jxX E d 305 1189 [some (.inr (.inr (.inl 3000))), some (.inr (.inr (.inl 0))), some (.inr (.inr (.inl 146))), some (.inl y3)] [] (jxSH, a, b)) (fun v _ _ => v = [.inl 1])) (a b : Nat → Nat → Int) (hv : iv a) (hg0 : WFW a) (hg1 : SV a) (hg2 : OC a) (hg3 : FO a) (hg4 : FW a) : jt (jxX E d 305 592 [some (.inr (.inr (.inl 3000))), some (.inr (.inr (.inl 0))), some (.inr (.inr (.inl 146))), some (.inl y3)] [] (jxSH, a, b)) (fun v _ _ => v = [.inl 1]) := by
  refine jt_eq (bq_law_592 E d y3 a b) ?_
  refine jt_bif (Nat.ble_eq_true_of_le (by omega)) ?_
  have h64_ : jxw (y3 + 1) = y3 + 1 := jxw_id (by omega) (by omega)
  refine jt_grd (by omega) ?_
  refine jt_bI (sp_X11_back E d (jd_le hd rfl) (E.2 ((jxw (y3 + 1)).toNat)) a b hv) (fun r65_ a65_ b65_ h65_ => ?_)
  obtain ⟨hv65_, hf65_, rfl, hq65_0⟩ := h65_
  refine jt_eq (bq_law_602 E d y3 a65_ b) ?_
  refine jt_bif (Nat.ble_eq_true_of_le (by omega)) ?_
  refine jt_grd (by omega) ?_
  refine jt_bI (sp_X12_back E d (jd_le hd rfl) (E.2 ((jxw (y3 + 1)).toNat)) a65_ b hv65_) (fun r66_ a66_ b66_ h66_ => ?_)
  obtain ⟨hv66_, hf66_, rfl, hq66_0⟩ := h66_
  exact hnext a66_ b hv66_ (WFW_fr (WFW_fr hg0 hf65_ (fun _ => rfl) (fun _ => rfl)) hf66_ (fun _ => rfl) (fun _ => rfl)) (SV_fr (SV_fr hg1 hf65_ (fun _ => rfl) (fun _ => rfl)) hf66_ (fun _ => rfl) (fun _ => rfl)) (OC_fr (OC_fr hg2 hf65_ rfl rfl (fun _ => rfl) (fun _ => rfl) (fun _ => rfl) (fun _ => rfl) (fun _ => rfl)) hf66_ rfl rfl (fun _ => rfl) (fun _ => rfl) (fun _ => rfl) (fun _ => rfl) (fun _ => rfl)) (FO_fr (FO_fr hg3 hf65_ rfl rfl (fun _ => rfl)) hf66_ rfl rfl (fun _ => rfl)) (FW_fr (FW_fr hg4 hf65_ rfl (fun _ => rfl)) hf66_ rfl (fun _ => rfl))
theorem lw_op615 (E : jxE) (d : Nat) (hd : Nat.ble 60 (d + 1) = true) (hL : E.1 ≤ 3072) (y3 : Int) (hy0 : 0 ≤ y3) (hy1 : y3 + 6 ≤ E.1) (hnext : ∀ (a b : Nat → Nat → Int) (hv : iv a) (hg0 : WFW a) (hg1 : SV a) (hg2 : OC a) (hg3 : FO a) (hg4 : FW a), jt (jxX E d 305 1189 [some (.inr (.inr (.inl 3000))), some (.inr (.inr (.inl 0))), some (.inr (.inr (.inl 146))), some (.inl y3)] [] (jxSH, a, b)) (fun v _ _ => v = [.inl 1])) (a b : Nat → Nat → Int) (hv : iv a) (hg0 : WFW a) (hg1 : SV a) (hg2 : OC a) (hg3 : FO a) (hg4 : FW a) : jt (jxX E d 305 615 [some (.inr (.inr (.inl 3000))), some (.inr (.inr (.inl 0))), some (.inr (.inr (.inl 146))), some (.inl y3)] [] (jxSH, a, b)) (fun v _ _ => v = [.inl 1]) := by
  refine jt_eq (bq_law_615 E d y3 a b) ?_
  refine jt_bif (Nat.ble_eq_true_of_le (by omega)) ?_
  have h67_ : jxw (y3 + 1) = y3 + 1 := jxw_id (by omega) (by omega)
  refine jt_grd (by omega) ?_
  refine jt_bif (Nat.ble_eq_true_of_le (by omega)) ?_
  have h68_ : jxw (y3 + 2) = y3 + 2 := jxw_id (by omega) (by omega)
  refine jt_grd (by omega) ?_
  refine jt_eI (eq_X11_card E d (jd_le hd rfl) (E.2 ((jxw (y3 + 1)).toNat)) (E.2 ((jxw (y3 + 2)).toNat)) a b) ?_
  refine jt_eq (bq_law_630 E d y3 a b) ?_
  refine jt_bif (Nat.ble_eq_true_of_le (by omega)) ?_
  refine jt_grd (by omega) ?_
  refine jt_bif (Nat.ble_eq_true_of_le (by omega)) ?_
  refine jt_grd (by omega) ?_
  refine jt_bI (sp_X12_card E d (jd_le hd rfl) (E.2 ((jxw (y3 + 1)).toNat)) (E.2 ((jxw (y3 + 2)).toNat)) a b hv) (fun r69_ a69_ b69_ h69_ => ?_)
  obtain ⟨rfl, rfl⟩ := h69_
  exact hnext a b hv hg0 hg1 hg2 hg3 hg4
theorem lw_op648 (E : jxE) (d : Nat) (hd : Nat.ble 60 (d + 1) = true) (hL : E.1 ≤ 3072) (y3 : Int) (hy0 : 0 ≤ y3) (hy1 : y3 + 6 ≤ E.1) (hnext : ∀ (a b : Nat → Nat → Int) (hv : iv a) (hg0 : WFW a) (hg1 : SV a) (hg2 : OC a) (hg3 : FO a) (hg4 : FW a), jt (jxX E d 305 1189 [some (.inr (.inr (.inl 3000))), some (.inr (.inr (.inl 0))), some (.inr (.inr (.inl 146))), some (.inl y3)] [] (jxSH, a, b)) (fun v _ _ => v = [.inl 1])) (a b : Nat → Nat → Int) (hv : iv a) (hg0 : WFW a) (hg1 : SV a) (hg2 : OC a) (hg3 : FO a) (hg4 : FW a) : jt (jxX E d 305 648 [some (.inr (.inr (.inl 3000))), some (.inr (.inr (.inl 0))), some (.inr (.inr (.inl 146))), some (.inl y3)] [] (jxSH, a, b)) (fun v _ _ => v = [.inl 1]) := by
  refine jt_eq (bq_law_648 E d y3 a b) ?_
  refine jt_bif (Nat.ble_eq_true_of_le (by omega)) ?_
  have h70_ : jxw (y3 + 1) = y3 + 1 := jxw_id (by omega) (by omega)
  refine jt_grd (by omega) ?_
  refine jt_bif (Nat.ble_eq_true_of_le (by omega)) ?_
  have h71_ : jxw (y3 + 2) = y3 + 2 := jxw_id (by omega) (by omega)
  refine jt_grd (by omega) ?_
  refine jt_bif (Nat.ble_eq_true_of_le (by omega)) ?_
  have h72_ : jxw (y3 + 3) = y3 + 3 := jxw_id (by omega) (by omega)
  refine jt_grd (by omega) ?_
  refine jt_bI (sp_X11_state E d (jd_le hd rfl) (E.2 ((jxw (y3 + 1)).toNat)) (E.2 ((jxw (y3 + 2)).toNat)) (E.2 ((jxw (y3 + 3)).toNat)) a b hv) (fun r73_ a73_ b73_ h73_ => ?_)
  obtain ⟨rfl, rfl⟩ := h73_
  refine jt_eq (bq_law_668 E d y3 a b) ?_
  refine jt_bif (Nat.ble_eq_true_of_le (by omega)) ?_
  refine jt_grd (by omega) ?_
  refine jt_bif (Nat.ble_eq_true_of_le (by omega)) ?_
  refine jt_grd (by omega) ?_
  refine jt_bif (Nat.ble_eq_true_of_le (by omega)) ?_
  refine jt_grd (by omega) ?_
  refine jt_bI (sp_X12_state E d (jd_le hd rfl) (E.2 ((jxw (y3 + 1)).toNat)) (E.2 ((jxw (y3 + 2)).toNat)) (E.2 ((jxw (y3 + 3)).toNat)) a b hv) (fun r74_ a74_ b74_ h74_ => ?_)
  obtain ⟨rfl, rfl⟩ := h74_
  refine jt_eq (bq_law_688 E d y3 a b) ?_
  exact hnext a b hv hg0 hg1 hg2 hg3 hg4
theorem lw_op691 (E : jxE) (d : Nat) (hd : Nat.ble 60 (d + 1) = true) (hL : E.1 ≤ 3072) (y3 : Int) (hy0 : 0 ≤ y3) (hy1 : y3 + 6 ≤ E.1) (hnext : ∀ (a b : Nat → Nat → Int) (hv : iv a) (hg0 : WFW a) (hg1 : SV a) (hg2 : OC a) (hg3 : FO a) (hg4 : FW a), jt (jxX E d 305 1189 [some (.inr (.inr (.inl 3000))), some (.inr (.inr (.inl 0))), some (.inr (.inr (.inl 146))), some (.inl y3)] [] (jxSH, a, b)) (fun v _ _ => v = [.inl 1])) (a b : Nat → Nat → Int) (hv : iv a) (hg0 : WFW a) (hg1 : SV a) (hg2 : OC a) (hg3 : FO a) (hg4 : FW a) : jt (jxX E d 305 691 [some (.inr (.inr (.inl 3000))), some (.inr (.inr (.inl 0))), some (.inr (.inr (.inl 146))), some (.inl y3)] [] (jxSH, a, b)) (fun v _ _ => v = [.inl 1]) := by
  refine jt_eq (bq_law_691 E d y3 a b) ?_
  refine jt_bif (Nat.ble_eq_true_of_le (by omega)) ?_
  have h75_ : jxw (y3 + 1) = y3 + 1 := jxw_id (by omega) (by omega)
  refine jt_grd (by omega) ?_
  refine jt_bif (Nat.ble_eq_true_of_le (by omega)) ?_
  have h76_ : jxw (y3 + 2) = y3 + 2 := jxw_id (by omega) (by omega)
  refine jt_grd (by omega) ?_
  refine jt_bI (sp_X11_about E d (jd_le hd rfl) (E.2 ((jxw (y3 + 1)).toNat)) (E.2 ((jxw (y3 + 2)).toNat)) a b hv) (fun r77_ a77_ b77_ h77_ => ?_)
  obtain ⟨hv77_, hf77_, rfl⟩ := h77_
  refine jt_eq (bq_law_706 E d y3 a77_ b) ?_
  refine jt_bif (Nat.ble_eq_true_of_le (by omega)) ?_
  refine jt_grd (by omega) ?_
  refine jt_bif (Nat.ble_eq_true_of_le (by omega)) ?_
  refine jt_grd (by omega) ?_
  refine jt_bI (sp_X12_about E d (jd_le hd rfl) (E.2 ((jxw (y3 + 1)).toNat)) (E.2 ((jxw (y3 + 2)).toNat)) a77_ b hv77_) (fun r78_ a78_ b78_ h78_ => ?_)
  obtain ⟨rfl, rfl⟩ := h78_
  exact hnext a77_ b hv77_ (WFW_fr hg0 hf77_ (fun _ => rfl) (fun _ => rfl)) (SV_fr hg1 hf77_ (fun _ => rfl) (fun _ => rfl)) (OC_fr hg2 hf77_ rfl rfl (fun _ => rfl) (fun _ => rfl) (fun _ => rfl) (fun _ => rfl) (fun _ => rfl)) (FO_fr hg3 hf77_ rfl rfl (fun _ => rfl)) (FW_fr hg4 hf77_ rfl (fun _ => rfl))
theorem lw_op724 (E : jxE) (d : Nat) (hd : Nat.ble 60 (d + 1) = true) (hL : E.1 ≤ 3072) (y3 : Int) (hy0 : 0 ≤ y3) (hy1 : y3 + 6 ≤ E.1) (hnext : ∀ (a b : Nat → Nat → Int) (hv : iv a) (hg0 : WFW a) (hg1 : SV a) (hg2 : OC a) (hg3 : FO a) (hg4 : FW a), jt (jxX E d 305 1189 [some (.inr (.inr (.inl 3000))), some (.inr (.inr (.inl 0))), some (.inr (.inr (.inl 146))), some (.inl y3)] [] (jxSH, a, b)) (fun v _ _ => v = [.inl 1])) (a b : Nat → Nat → Int) (hv : iv a) (hg0 : WFW a) (hg1 : SV a) (hg2 : OC a) (hg3 : FO a) (hg4 : FW a) : jt (jxX E d 305 724 [some (.inr (.inr (.inl 3000))), some (.inr (.inr (.inl 0))), some (.inr (.inr (.inl 146))), some (.inl y3)] [] (jxSH, a, b)) (fun v _ _ => v = [.inl 1]) := by
  refine jt_eq (bq_law_724 E d y3 a b) ?_
  refine jt_bif (Nat.ble_eq_true_of_le (by omega)) ?_
  have h79_ : jxw (y3 + 1) = y3 + 1 := jxw_id (by omega) (by omega)
  refine jt_grd (by omega) ?_
  refine jt_bI (sp_X11_album E d (jd_le hd rfl) (E.2 ((jxw (y3 + 1)).toNat)) a b hv) (fun r80_ a80_ b80_ h80_ => ?_)
  obtain ⟨rfl, rfl⟩ := h80_
  refine jt_eq (bq_law_734 E d y3 a b) ?_
  refine jt_bif (Nat.ble_eq_true_of_le (by omega)) ?_
  refine jt_grd (by omega) ?_
  refine jt_bI (sp_X12_album E d (jd_le hd rfl) (E.2 ((jxw (y3 + 1)).toNat)) a b hv) (fun r81_ a81_ b81_ h81_ => ?_)
  obtain ⟨rfl, rfl⟩ := h81_
  exact hnext a b hv hg0 hg1 hg2 hg3 hg4
theorem lw_op747 (E : jxE) (d : Nat) (hd : Nat.ble 60 (d + 1) = true) (hL : E.1 ≤ 3072) (y3 : Int) (hy0 : 0 ≤ y3) (hy1 : y3 + 6 ≤ E.1) (hnext : ∀ (a b : Nat → Nat → Int) (hv : iv a) (hg0 : WFW a) (hg1 : SV a) (hg2 : OC a) (hg3 : FO a) (hg4 : FW a), jt (jxX E d 305 1189 [some (.inr (.inr (.inl 3000))), some (.inr (.inr (.inl 0))), some (.inr (.inr (.inl 146))), some (.inl y3)] [] (jxSH, a, b)) (fun v _ _ => v = [.inl 1])) (a b : Nat → Nat → Int) (hv : iv a) (hg0 : WFW a) (hg1 : SV a) (hg2 : OC a) (hg3 : FO a) (hg4 : FW a) : jt (jxX E d 305 747 [some (.inr (.inr (.inl 3000))), some (.inr (.inr (.inl 0))), some (.inr (.inr (.inl 146))), some (.inl y3)] [] (jxSH, a, b)) (fun v _ _ => v = [.inl 1]) := by
  refine jt_eq (bq_law_747 E d y3 a b) ?_
  refine jt_bif (Nat.ble_eq_true_of_le (by omega)) ?_
  have h82_ : jxw (y3 + 1) = y3 + 1 := jxw_id (by omega) (by omega)
  refine jt_grd (by omega) ?_
  refine jt_bif (Nat.ble_eq_true_of_le (by omega)) ?_
  have h83_ : jxw (y3 + 2) = y3 + 2 := jxw_id (by omega) (by omega)
  refine jt_grd (by omega) ?_
  refine jt_bif (Nat.ble_eq_true_of_le (by omega)) ?_
  have h84_ : jxw (y3 + 3) = y3 + 3 := jxw_id (by omega) (by omega)
  refine jt_grd (by omega) ?_
  refine jt_bI (sp_X11_span E d (jd_le hd rfl) (E.2 ((jxw (y3 + 1)).toNat)) (E.2 ((jxw (y3 + 2)).toNat)) (E.2 ((jxw (y3 + 3)).toNat)) a b hv) (fun r85_ a85_ b85_ h85_ => ?_)
  obtain ⟨hv85_, hf85_, rfl⟩ := h85_
  refine jt_eq (bq_law_767 E d y3 a85_ b) ?_
  refine jt_bif (Nat.ble_eq_true_of_le (by omega)) ?_
  refine jt_grd (by omega) ?_
  refine jt_bif (Nat.ble_eq_true_of_le (by omega)) ?_
  refine jt_grd (by omega) ?_
  refine jt_bif (Nat.ble_eq_true_of_le (by omega)) ?_
  refine jt_grd (by omega) ?_
  refine jt_bI (sp_X12_span E d (jd_le hd rfl) (E.2 ((jxw (y3 + 1)).toNat)) (E.2 ((jxw (y3 + 2)).toNat)) (E.2 ((jxw (y3 + 3)).toNat)) a85_ b hv85_) (fun r86_ a86_ b86_ h86_ => ?_)
  obtain ⟨hv86_, hf86_, rfl⟩ := h86_
  refine jt_eq (bq_law_787 E d y3 a86_ b) ?_
  exact hnext a86_ b hv86_ (WFW_fr (WFW_fr hg0 hf85_ (fun _ => rfl) (fun _ => rfl)) hf86_ (fun _ => rfl) (fun _ => rfl)) (SV_fr (SV_fr hg1 hf85_ (fun _ => rfl) (fun _ => rfl)) hf86_ (fun _ => rfl) (fun _ => rfl)) (OC_fr (OC_fr hg2 hf85_ rfl rfl (fun _ => rfl) (fun _ => rfl) (fun _ => rfl) (fun _ => rfl) (fun _ => rfl)) hf86_ rfl rfl (fun _ => rfl) (fun _ => rfl) (fun _ => rfl) (fun _ => rfl) (fun _ => rfl)) (FO_fr (FO_fr hg3 hf85_ rfl rfl (fun _ => rfl)) hf86_ rfl rfl (fun _ => rfl)) (FW_fr (FW_fr hg4 hf85_ rfl (fun _ => rfl)) hf86_ rfl (fun _ => rfl))
theorem lw_op790 (E : jxE) (d : Nat) (hd : Nat.ble 60 (d + 1) = true) (hL : E.1 ≤ 3072) (y3 : Int) (hy0 : 0 ≤ y3) (hy1 : y3 + 6 ≤ E.1) (hnext : ∀ (a b : Nat → Nat → Int) (hv : iv a) (hg0 : WFW a) (hg1 : SV a) (hg2 : OC a) (hg3 : FO a) (hg4 : FW a), jt (jxX E d 305 1189 [some (.inr (.inr (.inl 3000))), some (.inr (.inr (.inl 0))), some (.inr (.inr (.inl 146))), some (.inl y3)] [] (jxSH, a, b)) (fun v _ _ => v = [.inl 1])) (a b : Nat → Nat → Int) (hv : iv a) (hg0 : WFW a) (hg1 : SV a) (hg2 : OC a) (hg3 : FO a) (hg4 : FW a) : jt (jxX E d 305 790 [some (.inr (.inr (.inl 3000))), some (.inr (.inr (.inl 0))), some (.inr (.inr (.inl 146))), some (.inl y3)] [] (jxSH, a, b)) (fun v _ _ => v = [.inl 1]) := by
  refine jt_eq (bq_law_790 E d y3 a b) ?_
  refine jt_bif (Nat.ble_eq_true_of_le (by omega)) ?_
  have h87_ : jxw (y3 + 1) = y3 + 1 := jxw_id (by omega) (by omega)
  refine jt_grd (by omega) ?_
  refine jt_bif (Nat.ble_eq_true_of_le (by omega)) ?_
  have h88_ : jxw (y3 + 2) = y3 + 2 := jxw_id (by omega) (by omega)
  refine jt_grd (by omega) ?_
  refine jt_bif (Nat.ble_eq_true_of_le (by omega)) ?_
  have h89_ : jxw (y3 + 3) = y3 + 3 := jxw_id (by omega) (by omega)
  refine jt_grd (by omega) ?_
  refine jt_bI (sp_X11_offer E d (jd_le hd rfl) (E.2 ((jxw (y3 + 1)).toNat)) (E.2 ((jxw (y3 + 2)).toNat)) (E.2 ((jxw (y3 + 3)).toNat)) a b hv) (fun r90_ a90_ b90_ h90_ => ?_)
  obtain ⟨hv90_, hf90_, rfl⟩ := h90_
  refine jt_eq (bq_law_810 E d y3 a90_ b) ?_
  refine jt_bif (Nat.ble_eq_true_of_le (by omega)) ?_
  refine jt_grd (by omega) ?_
  refine jt_bif (Nat.ble_eq_true_of_le (by omega)) ?_
  refine jt_grd (by omega) ?_
  refine jt_bif (Nat.ble_eq_true_of_le (by omega)) ?_
  refine jt_grd (by omega) ?_
  refine jt_bI (sp_X12_offer E d (jd_le hd rfl) (E.2 ((jxw (y3 + 1)).toNat)) (E.2 ((jxw (y3 + 2)).toNat)) (E.2 ((jxw (y3 + 3)).toNat)) a90_ b hv90_ (OC_fr hg2 hf90_ rfl rfl (fun _ => rfl) (fun _ => rfl) (fun _ => rfl) (fun _ => rfl) (fun _ => rfl)) (FO_fr hg3 hf90_ rfl rfl (fun _ => rfl)) (FW_fr hg4 hf90_ rfl (fun _ => rfl))) (fun r91_ a91_ b91_ h91_ => ?_)
  obtain ⟨hv91_, hf91_, rfl, hq91_0, hq91_1, hq91_2⟩ := h91_
  refine jt_eq (bq_law_830 E d y3 a91_ b) ?_
  exact hnext a91_ b hv91_ (WFW_fr (WFW_fr hg0 hf90_ (fun _ => rfl) (fun _ => rfl)) hf91_ (fun _ => rfl) (fun _ => rfl)) (SV_fr (SV_fr hg1 hf90_ (fun _ => rfl) (fun _ => rfl)) hf91_ (fun _ => rfl) (fun _ => rfl)) hq91_0 hq91_1 hq91_2
theorem lw_op833 (E : jxE) (d : Nat) (hd : Nat.ble 60 (d + 1) = true) (hL : E.1 ≤ 3072) (y3 : Int) (hy0 : 0 ≤ y3) (hy1 : y3 + 6 ≤ E.1) (hnext : ∀ (a b : Nat → Nat → Int) (hv : iv a) (hg0 : WFW a) (hg1 : SV a) (hg2 : OC a) (hg3 : FO a) (hg4 : FW a), jt (jxX E d 305 1189 [some (.inr (.inr (.inl 3000))), some (.inr (.inr (.inl 0))), some (.inr (.inr (.inl 146))), some (.inl y3)] [] (jxSH, a, b)) (fun v _ _ => v = [.inl 1])) (a b : Nat → Nat → Int) (hv : iv a) (hg0 : WFW a) (hg1 : SV a) (hg2 : OC a) (hg3 : FO a) (hg4 : FW a) : jt (jxX E d 305 833 [some (.inr (.inr (.inl 3000))), some (.inr (.inr (.inl 0))), some (.inr (.inr (.inl 146))), some (.inl y3)] [] (jxSH, a, b)) (fun v _ _ => v = [.inl 1]) := by
  refine jt_eq (bq_law_833 E d y3 a b) ?_
  refine jt_bif (Nat.ble_eq_true_of_le (by omega)) ?_
  have h92_ : jxw (y3 + 1) = y3 + 1 := jxw_id (by omega) (by omega)
  refine jt_grd (by omega) ?_
  refine jt_bI (sp_X11_away E d (jd_le hd rfl) (E.2 ((jxw (y3 + 1)).toNat)) a b hv) (fun r93_ a93_ b93_ h93_ => ?_)
  obtain ⟨hv93_, hf93_, rfl, hq93_0⟩ := h93_
  refine jt_eq (bq_law_843 E d y3 a93_ b) ?_
  refine jt_bif (Nat.ble_eq_true_of_le (by omega)) ?_
  refine jt_grd (by omega) ?_
  refine jt_bI (sp_X12_away E d (jd_le hd rfl) (E.2 ((jxw (y3 + 1)).toNat)) a93_ b hv93_ (OC_fr hg2 hf93_ rfl rfl (fun _ => rfl) (fun _ => rfl) (fun _ => rfl) (fun _ => rfl) (fun _ => rfl))) (fun r94_ a94_ b94_ h94_ => ?_)
  obtain ⟨hv94_, hf94_, rfl, hq94_0, hq94_1⟩ := h94_
  exact hnext a94_ b hv94_ (WFW_fr (WFW_fr hg0 hf93_ (fun _ => rfl) (fun _ => rfl)) hf94_ (fun _ => rfl) (fun _ => rfl)) (SV_fr (SV_fr hg1 hf93_ (fun _ => rfl) (fun _ => rfl)) hf94_ (fun _ => rfl) (fun _ => rfl)) hq94_1 (FO_fr (FO_fr hg3 hf93_ rfl rfl (fun _ => rfl)) hf94_ rfl rfl (fun _ => rfl)) (FW_fr (FW_fr hg4 hf93_ rfl (fun _ => rfl)) hf94_ rfl (fun _ => rfl))
theorem lw_op856 (E : jxE) (d : Nat) (hd : Nat.ble 60 (d + 1) = true) (hL : E.1 ≤ 3072) (y3 : Int) (hy0 : 0 ≤ y3) (hy1 : y3 + 6 ≤ E.1) (hnext : ∀ (a b : Nat → Nat → Int) (hv : iv a) (hg0 : WFW a) (hg1 : SV a) (hg2 : OC a) (hg3 : FO a) (hg4 : FW a), jt (jxX E d 305 1189 [some (.inr (.inr (.inl 3000))), some (.inr (.inr (.inl 0))), some (.inr (.inr (.inl 146))), some (.inl y3)] [] (jxSH, a, b)) (fun v _ _ => v = [.inl 1])) (a b : Nat → Nat → Int) (hv : iv a) (hg0 : WFW a) (hg1 : SV a) (hg2 : OC a) (hg3 : FO a) (hg4 : FW a) : jt (jxX E d 305 856 [some (.inr (.inr (.inl 3000))), some (.inr (.inr (.inl 0))), some (.inr (.inr (.inl 146))), some (.inl y3)] [] (jxSH, a, b)) (fun v _ _ => v = [.inl 1]) := by
  refine jt_eq (bq_law_856 E d y3 a b) ?_
  refine jt_bI (sp_X11_rings E d (jd_le hd rfl) a b hv) (fun r95_ a95_ b95_ h95_ => ?_)
  obtain ⟨hv95_, hf95_⟩ := h95_
  refine jt_eq (bq_law_861 E d y3 a95_ b95_) ?_
  refine jt_bI (sp_X12_rings E d (jd_le hd rfl) a95_ b95_ hv95_ (FO_fr hg3 hf95_ rfl rfl (fun _ => rfl)) (FW_fr hg4 hf95_ rfl (fun _ => rfl))) (fun r96_ a96_ b96_ h96_ => ?_)
  obtain ⟨hv96_, hf96_, rfl, hq96_0, hq96_1⟩ := h96_
  exact hnext a96_ b95_ hv96_ (WFW_fr (WFW_fr hg0 hf95_ (fun _ => rfl) (fun _ => rfl)) hf96_ (fun _ => rfl) (fun _ => rfl)) (SV_fr (SV_fr hg1 hf95_ (fun _ => rfl) (fun _ => rfl)) hf96_ (fun _ => rfl) (fun _ => rfl)) (OC_fr (OC_fr hg2 hf95_ rfl rfl (fun _ => rfl) (fun _ => rfl) (fun _ => rfl) (fun _ => rfl) (fun _ => rfl)) hf96_ rfl rfl (fun _ => rfl) (fun _ => rfl) (fun _ => rfl) (fun _ => rfl) (fun _ => rfl)) hq96_0 hq96_1
theorem lw_op869 (E : jxE) (d : Nat) (hd : Nat.ble 60 (d + 1) = true) (hL : E.1 ≤ 3072) (y3 : Int) (hy0 : 0 ≤ y3) (hy1 : y3 + 6 ≤ E.1) (hnext : ∀ (a b : Nat → Nat → Int) (hv : iv a) (hg0 : WFW a) (hg1 : SV a) (hg2 : OC a) (hg3 : FO a) (hg4 : FW a), jt (jxX E d 305 1189 [some (.inr (.inr (.inl 3000))), some (.inr (.inr (.inl 0))), some (.inr (.inr (.inl 146))), some (.inl y3)] [] (jxSH, a, b)) (fun v _ _ => v = [.inl 1])) (a b : Nat → Nat → Int) (hv : iv a) (hg0 : WFW a) (hg1 : SV a) (hg2 : OC a) (hg3 : FO a) (hg4 : FW a) : jt (jxX E d 305 869 [some (.inr (.inr (.inl 3000))), some (.inr (.inr (.inl 0))), some (.inr (.inr (.inl 146))), some (.inl y3)] [] (jxSH, a, b)) (fun v _ _ => v = [.inl 1]) := by
  refine jt_eq (bq_law_869 E d y3 a b) ?_
  refine jt_bif (Nat.ble_eq_true_of_le (by omega)) ?_
  have h97_ : jxw (y3 + 1) = y3 + 1 := jxw_id (by omega) (by omega)
  refine jt_grd (by omega) ?_
  refine jt_bif (Nat.ble_eq_true_of_le (by omega)) ?_
  have h98_ : jxw (y3 + 2) = y3 + 2 := jxw_id (by omega) (by omega)
  refine jt_grd (by omega) ?_
  refine jt_eI (eq_X11_ring E d (jd_le hd rfl) (E.2 ((jxw (y3 + 1)).toNat)) (E.2 ((jxw (y3 + 2)).toNat)) a b) ?_
  refine jt_eq (bq_law_884 E d y3 a b) ?_
  refine jt_bif (Nat.ble_eq_true_of_le (by omega)) ?_
  refine jt_grd (by omega) ?_
  refine jt_bif (Nat.ble_eq_true_of_le (by omega)) ?_
  refine jt_grd (by omega) ?_
  refine jt_eI (eq_X12_ring E d (jd_le hd rfl) (E.2 ((jxw (y3 + 1)).toNat)) (E.2 ((jxw (y3 + 2)).toNat)) a b hv) ?_
  exact hnext a b hv hg0 hg1 hg2 hg3 hg4
theorem lw_op902 (E : jxE) (d : Nat) (hd : Nat.ble 60 (d + 1) = true) (hL : E.1 ≤ 3072) (y3 : Int) (hy0 : 0 ≤ y3) (hy1 : y3 + 6 ≤ E.1) (hnext : ∀ (a b : Nat → Nat → Int) (hv : iv a) (hg0 : WFW a) (hg1 : SV a) (hg2 : OC a) (hg3 : FO a) (hg4 : FW a), jt (jxX E d 305 1189 [some (.inr (.inr (.inl 3000))), some (.inr (.inr (.inl 0))), some (.inr (.inr (.inl 146))), some (.inl y3)] [] (jxSH, a, b)) (fun v _ _ => v = [.inl 1])) (a b : Nat → Nat → Int) (hv : iv a) (hg0 : WFW a) (hg1 : SV a) (hg2 : OC a) (hg3 : FO a) (hg4 : FW a) : jt (jxX E d 305 902 [some (.inr (.inr (.inl 3000))), some (.inr (.inr (.inl 0))), some (.inr (.inr (.inl 146))), some (.inl y3)] [] (jxSH, a, b)) (fun v _ _ => v = [.inl 1]) := by
  refine jt_eq (bq_law_902 E d y3 a b) ?_
  refine jt_bif (Nat.ble_eq_true_of_le (by omega)) ?_
  have h99_ : jxw (y3 + 1) = y3 + 1 := jxw_id (by omega) (by omega)
  refine jt_grd (by omega) ?_
  refine jt_bI (sp_X11_close E d (jd_le hd rfl) (E.2 ((jxw (y3 + 1)).toNat)) a b hv) (fun r100_ a100_ b100_ h100_ => ?_)
  obtain ⟨hv100_, hf100_, rfl⟩ := h100_
  refine jt_eq (bq_law_912 E d y3 a100_ b) ?_
  refine jt_bif (Nat.ble_eq_true_of_le (by omega)) ?_
  refine jt_grd (by omega) ?_
  refine jt_bI (sp_X12_close E d (jd_le hd rfl) (E.2 ((jxw (y3 + 1)).toNat)) a100_ b hv100_ (OC_fr hg2 hf100_ rfl rfl (fun _ => rfl) (fun _ => rfl) (fun _ => rfl) (fun _ => rfl) (fun _ => rfl)) (FO_fr hg3 hf100_ rfl rfl (fun _ => rfl))) (fun r101_ a101_ b101_ h101_ => ?_)
  obtain ⟨hv101_, hf101_, rfl, hq101_0⟩ := h101_
  exact hnext a101_ b hv101_ (WFW_fr (WFW_fr hg0 hf100_ (fun _ => rfl) (fun _ => rfl)) hf101_ (fun _ => rfl) (fun _ => rfl)) (SV_fr (SV_fr hg1 hf100_ (fun _ => rfl) (fun _ => rfl)) hf101_ (fun _ => rfl) (fun _ => rfl)) hq101_0 (FO_fr (FO_fr hg3 hf100_ rfl rfl (fun _ => rfl)) hf101_ rfl rfl (fun _ => rfl)) (FW_fr (FW_fr hg4 hf100_ rfl (fun _ => rfl)) hf101_ rfl (fun _ => rfl))
theorem lw_op925 (E : jxE) (d : Nat) (hd : Nat.ble 60 (d + 1) = true) (hL : E.1 ≤ 3072) (y3 : Int) (hy0 : 0 ≤ y3) (hy1 : y3 + 6 ≤ E.1) (hnext : ∀ (a b : Nat → Nat → Int) (hv : iv a) (hg0 : WFW a) (hg1 : SV a) (hg2 : OC a) (hg3 : FO a) (hg4 : FW a), jt (jxX E d 305 1189 [some (.inr (.inr (.inl 3000))), some (.inr (.inr (.inl 0))), some (.inr (.inr (.inl 146))), some (.inl y3)] [] (jxSH, a, b)) (fun v _ _ => v = [.inl 1])) (a b : Nat → Nat → Int) (hv : iv a) (hg0 : WFW a) (hg1 : SV a) (hg2 : OC a) (hg3 : FO a) (hg4 : FW a) : jt (jxX E d 305 925 [some (.inr (.inr (.inl 3000))), some (.inr (.inr (.inl 0))), some (.inr (.inr (.inl 146))), some (.inl y3)] [] (jxSH, a, b)) (fun v _ _ => v = [.inl 1]) := by
  refine jt_eq (bq_law_925 E d y3 a b) ?_
  refine jt_bif (Nat.ble_eq_true_of_le (by omega)) ?_
  have h102_ : jxw (y3 + 1) = y3 + 1 := jxw_id (by omega) (by omega)
  refine jt_grd (by omega) ?_
  refine jt_bif (Nat.ble_eq_true_of_le (by omega)) ?_
  have h103_ : jxw (y3 + 2) = y3 + 2 := jxw_id (by omega) (by omega)
  refine jt_grd (by omega) ?_
  refine jt_bI (sp_X11_drop E d (jd_le hd rfl) (E.2 ((jxw (y3 + 1)).toNat)) (E.2 ((jxw (y3 + 2)).toNat)) a b hv) (fun r104_ a104_ b104_ h104_ => ?_)
  obtain ⟨hv104_, hf104_, rfl⟩ := h104_
  refine jt_eq (bq_law_940 E d y3 a104_ b) ?_
  refine jt_bif (Nat.ble_eq_true_of_le (by omega)) ?_
  refine jt_grd (by omega) ?_
  refine jt_bif (Nat.ble_eq_true_of_le (by omega)) ?_
  refine jt_grd (by omega) ?_
  refine jt_bI (sp_X12_drop E d (jd_le hd rfl) (E.2 ((jxw (y3 + 1)).toNat)) (E.2 ((jxw (y3 + 2)).toNat)) a104_ b hv104_ (OC_fr hg2 hf104_ rfl rfl (fun _ => rfl) (fun _ => rfl) (fun _ => rfl) (fun _ => rfl) (fun _ => rfl))) (fun r105_ a105_ b105_ h105_ => ?_)
  obtain ⟨hv105_, hf105_, rfl, hq105_0⟩ := h105_
  exact hnext a105_ b hv105_ (WFW_fr (WFW_fr hg0 hf104_ (fun _ => rfl) (fun _ => rfl)) hf105_ (fun _ => rfl) (fun _ => rfl)) (SV_fr (SV_fr hg1 hf104_ (fun _ => rfl) (fun _ => rfl)) hf105_ (fun _ => rfl) (fun _ => rfl)) hq105_0 (FO_fr (FO_fr hg3 hf104_ rfl rfl (fun _ => rfl)) hf105_ rfl rfl (fun _ => rfl)) (FW_fr (FW_fr hg4 hf104_ rfl (fun _ => rfl)) hf105_ rfl (fun _ => rfl))
theorem lw_op958 (E : jxE) (d : Nat) (hd : Nat.ble 60 (d + 1) = true) (hL : E.1 ≤ 3072) (y3 : Int) (hy0 : 0 ≤ y3) (hy1 : y3 + 6 ≤ E.1) (hnext : ∀ (a b : Nat → Nat → Int) (hv : iv a) (hg0 : WFW a) (hg1 : SV a) (hg2 : OC a) (hg3 : FO a) (hg4 : FW a), jt (jxX E d 305 1189 [some (.inr (.inr (.inl 3000))), some (.inr (.inr (.inl 0))), some (.inr (.inr (.inl 146))), some (.inl y3)] [] (jxSH, a, b)) (fun v _ _ => v = [.inl 1])) (a b : Nat → Nat → Int) (hv : iv a) (hg0 : WFW a) (hg1 : SV a) (hg2 : OC a) (hg3 : FO a) (hg4 : FW a) : jt (jxX E d 305 958 [some (.inr (.inr (.inl 3000))), some (.inr (.inr (.inl 0))), some (.inr (.inr (.inl 146))), some (.inl y3)] [] (jxSH, a, b)) (fun v _ _ => v = [.inl 1]) := by
  refine jt_eq (bq_law_958 E d y3 a b) ?_
  refine jt_bif (Nat.ble_eq_true_of_le (by omega)) ?_
  have h106_ : jxw (y3 + 1) = y3 + 1 := jxw_id (by omega) (by omega)
  refine jt_grd (by omega) ?_
  refine jt_bif (Nat.ble_eq_true_of_le (by omega)) ?_
  have h107_ : jxw (y3 + 2) = y3 + 2 := jxw_id (by omega) (by omega)
  refine jt_grd (by omega) ?_
  refine jt_eI (eq_X11_offers E d (jd_le hd rfl) (E.2 ((jxw (y3 + 1)).toNat)) (E.2 ((jxw (y3 + 2)).toNat)) a b) ?_
  refine jt_eq (bq_law_973 E d y3 a b) ?_
  refine jt_bif (Nat.ble_eq_true_of_le (by omega)) ?_
  refine jt_grd (by omega) ?_
  refine jt_bif (Nat.ble_eq_true_of_le (by omega)) ?_
  refine jt_grd (by omega) ?_
  refine jt_eI (eq_X12_offers E d (jd_le hd rfl) (E.2 ((jxw (y3 + 1)).toNat)) (E.2 ((jxw (y3 + 2)).toNat)) a b hv) ?_
  exact hnext a b hv hg0 hg1 hg2 hg3 hg4
theorem lw_op991 (E : jxE) (d : Nat) (hd : Nat.ble 60 (d + 1) = true) (hL : E.1 ≤ 3072) (y3 : Int) (hy0 : 0 ≤ y3) (hy1 : y3 + 6 ≤ E.1) (hnext : ∀ (a b : Nat → Nat → Int) (hv : iv a) (hg0 : WFW a) (hg1 : SV a) (hg2 : OC a) (hg3 : FO a) (hg4 : FW a), jt (jxX E d 305 1189 [some (.inr (.inr (.inl 3000))), some (.inr (.inr (.inl 0))), some (.inr (.inr (.inl 146))), some (.inl y3)] [] (jxSH, a, b)) (fun v _ _ => v = [.inl 1])) (a b : Nat → Nat → Int) (hv : iv a) (hg0 : WFW a) (hg1 : SV a) (hg2 : OC a) (hg3 : FO a) (hg4 : FW a) : jt (jxX E d 305 991 [some (.inr (.inr (.inl 3000))), some (.inr (.inr (.inl 0))), some (.inr (.inr (.inl 146))), some (.inl y3)] [] (jxSH, a, b)) (fun v _ _ => v = [.inl 1]) := by
  refine jt_eq (bq_law_991 E d y3 a b) ?_
  refine jt_bif (Nat.ble_eq_true_of_le (by omega)) ?_
  have h108_ : jxw (y3 + 1) = y3 + 1 := jxw_id (by omega) (by omega)
  refine jt_grd (by omega) ?_
  refine jt_bI (sp_X11_rates E d (jd_le hd rfl) (E.2 ((jxw (y3 + 1)).toNat)) a b hv) (fun r109_ a109_ b109_ h109_ => ?_)
  obtain ⟨hv109_, hf109_, rfl⟩ := h109_
  refine jt_eq (bq_law_1001 E d y3 a109_ b) ?_
  refine jt_bif (Nat.ble_eq_true_of_le (by omega)) ?_
  refine jt_grd (by omega) ?_
  refine jt_bI (sp_X12_rates E d (jd_le hd rfl) (E.2 ((jxw (y3 + 1)).toNat)) a109_ b hv109_) (fun r110_ a110_ b110_ h110_ => ?_)
  obtain ⟨hv110_, hf110_, rfl⟩ := h110_
  exact hnext a110_ b hv110_ (WFW_fr (WFW_fr hg0 hf109_ (fun _ => rfl) (fun _ => rfl)) hf110_ (fun _ => rfl) (fun _ => rfl)) (SV_fr (SV_fr hg1 hf109_ (fun _ => rfl) (fun _ => rfl)) hf110_ (fun _ => rfl) (fun _ => rfl)) (OC_fr (OC_fr hg2 hf109_ rfl rfl (fun _ => rfl) (fun _ => rfl) (fun _ => rfl) (fun _ => rfl) (fun _ => rfl)) hf110_ rfl rfl (fun _ => rfl) (fun _ => rfl) (fun _ => rfl) (fun _ => rfl) (fun _ => rfl)) (FO_fr (FO_fr hg3 hf109_ rfl rfl (fun _ => rfl)) hf110_ rfl rfl (fun _ => rfl)) (FW_fr (FW_fr hg4 hf109_ rfl (fun _ => rfl)) hf110_ rfl (fun _ => rfl))
theorem lw_op1014 (E : jxE) (d : Nat) (hd : Nat.ble 60 (d + 1) = true) (hL : E.1 ≤ 3072) (y3 : Int) (hy0 : 0 ≤ y3) (hy1 : y3 + 6 ≤ E.1) (hnext : ∀ (a b : Nat → Nat → Int) (hv : iv a) (hg0 : WFW a) (hg1 : SV a) (hg2 : OC a) (hg3 : FO a) (hg4 : FW a), jt (jxX E d 305 1189 [some (.inr (.inr (.inl 3000))), some (.inr (.inr (.inl 0))), some (.inr (.inr (.inl 146))), some (.inl y3)] [] (jxSH, a, b)) (fun v _ _ => v = [.inl 1])) (a b : Nat → Nat → Int) (hv : iv a) (hg0 : WFW a) (hg1 : SV a) (hg2 : OC a) (hg3 : FO a) (hg4 : FW a) : jt (jxX E d 305 1014 [some (.inr (.inr (.inl 3000))), some (.inr (.inr (.inl 0))), some (.inr (.inr (.inl 146))), some (.inl y3)] [] (jxSH, a, b)) (fun v _ _ => v = [.inl 1]) := by
  refine jt_eq (bq_law_1014 E d y3 a b) ?_
  refine jt_bif (Nat.ble_eq_true_of_le (by omega)) ?_
  have h111_ : jxw (y3 + 1) = y3 + 1 := jxw_id (by omega) (by omega)
  refine jt_grd (by omega) ?_
  refine jt_bif (Nat.ble_eq_true_of_le (by omega)) ?_
  have h112_ : jxw (y3 + 2) = y3 + 2 := jxw_id (by omega) (by omega)
  refine jt_grd (by omega) ?_
  refine jt_bif (Nat.ble_eq_true_of_le (by omega)) ?_
  have h113_ : jxw (y3 + 3) = y3 + 3 := jxw_id (by omega) (by omega)
  refine jt_grd (by omega) ?_
  refine jt_bif (Nat.ble_eq_true_of_le (by omega)) ?_
  have h114_ : jxw (y3 + 4) = y3 + 4 := jxw_id (by omega) (by omega)
  refine jt_grd (by omega) ?_
  refine jt_bI (sp_X11_price E d (jd_le hd rfl) (E.2 ((jxw (y3 + 1)).toNat)) (E.2 ((jxw (y3 + 2)).toNat)) (E.2 ((jxw (y3 + 3)).toNat)) (E.2 ((jxw (y3 + 4)).toNat)) a b hv) (fun r115_ a115_ b115_ h115_ => ?_)
  obtain ⟨rfl, rfl⟩ := h115_
  refine jt_eq (bq_law_1039 E d y3 a b) ?_
  refine jt_bif (Nat.ble_eq_true_of_le (by omega)) ?_
  refine jt_grd (by omega) ?_
  refine jt_bif (Nat.ble_eq_true_of_le (by omega)) ?_
  refine jt_grd (by omega) ?_
  refine jt_bif (Nat.ble_eq_true_of_le (by omega)) ?_
  refine jt_grd (by omega) ?_
  refine jt_bif (Nat.ble_eq_true_of_le (by omega)) ?_
  refine jt_grd (by omega) ?_
  refine jt_bI (sp_X12_price E d (jd_le hd rfl) (E.2 ((jxw (y3 + 1)).toNat)) (E.2 ((jxw (y3 + 2)).toNat)) (E.2 ((jxw (y3 + 3)).toNat)) (E.2 ((jxw (y3 + 4)).toNat)) a b hv) (fun r116_ a116_ b116_ h116_ => ?_)
  obtain ⟨rfl, rfl⟩ := h116_
  refine jt_eq (bq_law_1064 E d y3 a b) ?_
  exact hnext a b hv hg0 hg1 hg2 hg3 hg4
theorem lw_op1067 (E : jxE) (d : Nat) (hd : Nat.ble 60 (d + 1) = true) (hL : E.1 ≤ 3072) (y3 : Int) (hy0 : 0 ≤ y3) (hy1 : y3 + 6 ≤ E.1) (hnext : ∀ (a b : Nat → Nat → Int) (hv : iv a) (hg0 : WFW a) (hg1 : SV a) (hg2 : OC a) (hg3 : FO a) (hg4 : FW a), jt (jxX E d 305 1189 [some (.inr (.inr (.inl 3000))), some (.inr (.inr (.inl 0))), some (.inr (.inr (.inl 146))), some (.inl y3)] [] (jxSH, a, b)) (fun v _ _ => v = [.inl 1])) (a b : Nat → Nat → Int) (hv : iv a) (hg0 : WFW a) (hg1 : SV a) (hg2 : OC a) (hg3 : FO a) (hg4 : FW a) : jt (jxX E d 305 1067 [some (.inr (.inr (.inl 3000))), some (.inr (.inr (.inl 0))), some (.inr (.inr (.inl 146))), some (.inl y3)] [] (jxSH, a, b)) (fun v _ _ => v = [.inl 1]) := by
  refine jt_eq (bq_law_1067 E d y3 a b) ?_
  refine jt_bif (Nat.ble_eq_true_of_le (by omega)) ?_
  have h117_ : jxw (y3 + 1) = y3 + 1 := jxw_id (by omega) (by omega)
  refine jt_grd (by omega) ?_
  refine jt_bif (Nat.ble_eq_true_of_le (by omega)) ?_
  have h118_ : jxw (y3 + 2) = y3 + 2 := jxw_id (by omega) (by omega)
  refine jt_grd (by omega) ?_
  refine jt_bif (Nat.ble_eq_true_of_le (by omega)) ?_
  have h119_ : jxw (y3 + 3) = y3 + 3 := jxw_id (by omega) (by omega)
  refine jt_grd (by omega) ?_
  refine jt_bI (sp_X11_stamps E d (jd_le hd rfl) (E.2 ((jxw (y3 + 1)).toNat)) (E.2 ((jxw (y3 + 2)).toNat)) (E.2 ((jxw (y3 + 3)).toNat)) a b hv) (fun r120_ a120_ b120_ h120_ => ?_)
  obtain ⟨hv120_, hf120_, rfl, hq120_0, hq120_1⟩ := h120_
  refine jt_bif (Nat.ble_eq_true_of_le (by omega)) ?_
  refine jt_grd (by omega) ?_
  refine jt_bif (Nat.ble_eq_true_of_le (by omega)) ?_
  refine jt_grd (by omega) ?_
  refine jt_bif (Nat.ble_eq_true_of_le (by omega)) ?_
  refine jt_grd (by omega) ?_
  refine jt_bI (sp_X12_stamps E d (jd_le hd rfl) (E.2 ((jxw (y3 + 1)).toNat)) (E.2 ((jxw (y3 + 2)).toNat)) (E.2 ((jxw (y3 + 3)).toNat)) a120_ b hv120_ (SV_fr hg1 hf120_ (fun _ => rfl) (fun _ => rfl))) (fun r121_ a121_ b121_ h121_ => ?_)
  obtain ⟨hv121_, hf121_, rfl, hq121_0, hq121_1, hq121_2⟩ := h121_
  refine jt_ite (fun c122_ => ?_) (fun c122_ => ?_)
  ·
    exact hnext a121_ b hv121_ (WFW_fr (WFW_fr hg0 hf120_ (fun _ => rfl) (fun _ => rfl)) hf121_ (fun _ => rfl) (fun _ => rfl)) hq121_1 (OC_fr (OC_fr hg2 hf120_ rfl rfl (fun _ => rfl) (fun _ => rfl) (fun _ => rfl) (fun _ => rfl) (fun _ => rfl)) hf121_ rfl rfl (fun _ => rfl) (fun _ => rfl) (fun _ => rfl) (fun _ => rfl) (fun _ => rfl)) (FO_fr (FO_fr hg3 hf120_ rfl rfl (fun _ => rfl)) hf121_ rfl rfl (fun _ => rfl)) (FW_fr (FW_fr hg4 hf120_ rfl (fun _ => rfl)) hf121_ rfl (fun _ => rfl))
  ·
    exact absurd (by omega : False) id
theorem lw_op1110 (E : jxE) (d : Nat) (hd : Nat.ble 60 (d + 1) = true) (hL : E.1 ≤ 3072) (y3 : Int) (hy0 : 0 ≤ y3) (hy1 : y3 + 6 ≤ E.1) (hnext : ∀ (a b : Nat → Nat → Int) (hv : iv a) (hg0 : WFW a) (hg1 : SV a) (hg2 : OC a) (hg3 : FO a) (hg4 : FW a), jt (jxX E d 305 1189 [some (.inr (.inr (.inl 3000))), some (.inr (.inr (.inl 0))), some (.inr (.inr (.inl 146))), some (.inl y3)] [] (jxSH, a, b)) (fun v _ _ => v = [.inl 1])) (a b : Nat → Nat → Int) (hv : iv a) (hg0 : WFW a) (hg1 : SV a) (hg2 : OC a) (hg3 : FO a) (hg4 : FW a) : jt (jxX E d 305 1110 [some (.inr (.inr (.inl 3000))), some (.inr (.inr (.inl 0))), some (.inr (.inr (.inl 146))), some (.inl y3)] [] (jxSH, a, b)) (fun v _ _ => v = [.inl 1]) := by
  refine jt_eq (bq_law_1110 E d y3 a b) ?_
  refine jt_bif (Nat.ble_eq_true_of_le (by omega)) ?_
  have h123_ : jxw (y3 + 1) = y3 + 1 := jxw_id (by omega) (by omega)
  refine jt_grd (by omega) ?_
  refine jt_bif (Nat.ble_eq_true_of_le (by omega)) ?_
  have h124_ : jxw (y3 + 2) = y3 + 2 := jxw_id (by omega) (by omega)
  refine jt_grd (by omega) ?_
  refine jt_bI (sp_X11_pay E d (jd_le hd rfl) (E.2 ((jxw (y3 + 1)).toNat)) (E.2 ((jxw (y3 + 2)).toNat)) a b hv) (fun r125_ a125_ b125_ h125_ => ?_)
  obtain ⟨hv125_, hf125_⟩ := h125_
  refine jt_eq (bq_law_1125 E d y3 a125_ b125_) ?_
  refine jt_bif (Nat.ble_eq_true_of_le (by omega)) ?_
  refine jt_grd (by omega) ?_
  refine jt_bif (Nat.ble_eq_true_of_le (by omega)) ?_
  refine jt_grd (by omega) ?_
  refine jt_bI (sp_X12_pay E d (jd_le hd rfl) (E.2 ((jxw (y3 + 1)).toNat)) (E.2 ((jxw (y3 + 2)).toNat)) a125_ b125_ hv125_ (SV_fr hg1 hf125_ (fun _ => rfl) (fun _ => rfl))) (fun r126_ a126_ b126_ h126_ => ?_)
  obtain ⟨hv126_, hf126_, rfl, hq126_0⟩ := h126_
  exact hnext a126_ b125_ hv126_ (WFW_fr (WFW_fr hg0 hf125_ (fun _ => rfl) (fun _ => rfl)) hf126_ (fun _ => rfl) (fun _ => rfl)) hq126_0 (OC_fr (OC_fr hg2 hf125_ rfl rfl (fun _ => rfl) (fun _ => rfl) (fun _ => rfl) (fun _ => rfl) (fun _ => rfl)) hf126_ rfl rfl (fun _ => rfl) (fun _ => rfl) (fun _ => rfl) (fun _ => rfl) (fun _ => rfl)) (FO_fr (FO_fr hg3 hf125_ rfl rfl (fun _ => rfl)) hf126_ rfl rfl (fun _ => rfl)) (FW_fr (FW_fr hg4 hf125_ rfl (fun _ => rfl)) hf126_ rfl (fun _ => rfl))
theorem lw_op1143 (E : jxE) (d : Nat) (hd : Nat.ble 60 (d + 1) = true) (hL : E.1 ≤ 3072) (y3 : Int) (hy0 : 0 ≤ y3) (hy1 : y3 + 6 ≤ E.1) (hnext : ∀ (a b : Nat → Nat → Int) (hv : iv a) (hg0 : WFW a) (hg1 : SV a) (hg2 : OC a) (hg3 : FO a) (hg4 : FW a), jt (jxX E d 305 1189 [some (.inr (.inr (.inl 3000))), some (.inr (.inr (.inl 0))), some (.inr (.inr (.inl 146))), some (.inl y3)] [] (jxSH, a, b)) (fun v _ _ => v = [.inl 1])) (a b : Nat → Nat → Int) (hv : iv a) (hg0 : WFW a) (hg1 : SV a) (hg2 : OC a) (hg3 : FO a) (hg4 : FW a) : jt (jxX E d 305 1143 [some (.inr (.inr (.inl 3000))), some (.inr (.inr (.inl 0))), some (.inr (.inr (.inl 146))), some (.inl y3)] [] (jxSH, a, b)) (fun v _ _ => v = [.inl 1]) := by
  refine jt_eq (bq_law_1143 E d y3 a b) ?_
  refine jt_bif (Nat.ble_eq_true_of_le (by omega)) ?_
  have h127_ : jxw (y3 + 1) = y3 + 1 := jxw_id (by omega) (by omega)
  refine jt_grd (by omega) ?_
  refine jt_eI (eq_X11_paid E d (jd_le hd rfl) (E.2 ((jxw (y3 + 1)).toNat)) a b) ?_
  refine jt_eq (bq_law_1153 E d y3 a b) ?_
  refine jt_bif (Nat.ble_eq_true_of_le (by omega)) ?_
  refine jt_grd (by omega) ?_
  refine jt_eI (eq_X12_paid E d (jd_le hd rfl) (E.2 ((jxw (y3 + 1)).toNat)) a b) ?_
  exact hnext a b hv hg0 hg1 hg2 hg3 hg4
theorem lw_op1166 (E : jxE) (d : Nat) (hd : Nat.ble 60 (d + 1) = true) (hL : E.1 ≤ 3072) (y3 : Int) (hy0 : 0 ≤ y3) (hy1 : y3 + 6 ≤ E.1) (hnext : ∀ (a b : Nat → Nat → Int) (hv : iv a) (hg0 : WFW a) (hg1 : SV a) (hg2 : OC a) (hg3 : FO a) (hg4 : FW a), jt (jxX E d 305 1189 [some (.inr (.inr (.inl 3000))), some (.inr (.inr (.inl 0))), some (.inr (.inr (.inl 146))), some (.inl y3)] [] (jxSH, a, b)) (fun v _ _ => v = [.inl 1])) (a b : Nat → Nat → Int) (hv : iv a) (hg0 : WFW a) (hg1 : SV a) (hg2 : OC a) (hg3 : FO a) (hg4 : FW a) : jt (jxX E d 305 1166 [some (.inr (.inr (.inl 3000))), some (.inr (.inr (.inl 0))), some (.inr (.inr (.inl 146))), some (.inl y3)] [] (jxSH, a, b)) (fun v _ _ => v = [.inl 1]) := by
  refine jt_eq (bq_law_1166 E d y3 a b) ?_
  refine jt_bif (Nat.ble_eq_true_of_le (by omega)) ?_
  have h128_ : jxw (y3 + 1) = y3 + 1 := jxw_id (by omega) (by omega)
  refine jt_grd (by omega) ?_
  refine jt_bI (sp_X11_count E d (jd_le hd rfl) (E.2 ((jxw (y3 + 1)).toNat)) a b hv) (fun r129_ a129_ b129_ h129_ => ?_)
  obtain ⟨rfl, rfl⟩ := h129_
  refine jt_eq (bq_law_1176 E d y3 a b) ?_
  refine jt_bif (Nat.ble_eq_true_of_le (by omega)) ?_
  refine jt_grd (by omega) ?_
  refine jt_bI (sp_X12_count E d (jd_le hd rfl) (E.2 ((jxw (y3 + 1)).toNat)) a b hv) (fun r130_ a130_ b130_ h130_ => ?_)
  obtain ⟨rfl, rfl⟩ := h130_
  exact hnext a b hv hg0 hg1 hg2 hg3 hg4
theorem lw_18 (E : jxE) (d : Nat) (hd : Nat.ble 60 (d + 1) = true) (hL : E.1 ≤ 3072) : ∀ n : Nat, ∀ (y3 : Int) (a b : Nat → Nat → Int), ((E.1 : Int) - y3).toNat ≤ n → 0 ≤ y3 → y3 ≤ 3078 → iv a → WFW a → SV a → OC a → FO a → FW a → jt (jxX E d 305 18 [some (.inr (.inr (.inl 3000))), some (.inr (.inr (.inl 0))), some (.inr (.inr (.inl 146))), some (.inl y3)] [] (jxSH, a, b)) (fun v _ _ => v = [.inl 1]) := by
  refine jx_ind fun n ih => ?_
  intro y3 a b hm hy0 hy9 hv hg0 hg1 hg2 hg3 hg4 
  refine jt_eq (bq_law_18 E d y3 a b) ?_
  have hnext0 : y3 + 6 ≤ E.1 → ∀ (a b : Nat → Nat → Int) (hv : iv a) (hg0 : WFW a) (hg1 : SV a) (hg2 : OC a) (hg3 : FO a) (hg4 : FW a), jt (jxX E d 305 1189 [some (.inr (.inr (.inl 3000))), some (.inr (.inr (.inl 0))), some (.inr (.inr (.inl 146))), some (.inl y3)] [] (jxSH, a, b)) (fun v _ _ => v = [.inl 1]) := fun hlt a b hv hg0 hg1 hg2 hg3 hg4  => by
    refine jt_eq (bq_law_1189 E d y3 a b) ?_
    have e : jxw (y3 + 6) = y3 + 6 := jxw_id (by omega) (by omega)
    rw [e]
    exact ih ((E.1 : Int) - (y3 + 6)).toNat (by omega) (y3 + 6) a b (Nat.le_refl _) (by omega) (by omega) hv hg0 hg1 hg2 hg3 hg4 
  refine jt_bif (Nat.ble_eq_true_of_le (by omega)) ?_
  have e6 : jxw ((E.1 : Int) - 6) = (E.1 : Int) - 6 := jxw_id (by omega) (by omega)
  refine jt_ite (fun c1 => ?_) (fun c1 => ?_)
  · exact ⟨_, _, _, rfl, rfl⟩
  ·
    have hy1 : y3 + 6 ≤ E.1 := by omega
    have hnext := hnext0 hy1
    refine jt_bif (Nat.ble_eq_true_of_le (by omega)) ?_
    refine jt_grd (by omega) ?_
    have h131_ := jxand_r (E.2 (y3.toNat)) 63 (by decide) (by decide)
    refine jt_ite (fun c132_ => ?_) (fun c132_ => ?_)
    ·
      exact hnext a b hv hg0 hg1 hg2 hg3 hg4
    ·
      refine jt_ite (fun c133_ => ?_) (fun c133_ => ?_)
      ·
        exact lw_op180 E d hd hL y3 hy0 (by omega) hnext a b hv hg0 hg1 hg2 hg3 hg4
      ·
        refine jt_ite (fun c134_ => ?_) (fun c134_ => ?_)
        ·
          exact lw_op203 E d hd hL y3 hy0 (by omega) hnext a b hv hg0 hg1 hg2 hg3 hg4
        ·
          refine jt_ite (fun c135_ => ?_) (fun c135_ => ?_)
          ·
            exact lw_op246 E d hd hL y3 hy0 (by omega) hnext a b hv hg0 hg1 hg2 hg3 hg4
          ·
            refine jt_ite (fun c136_ => ?_) (fun c136_ => ?_)
            ·
              exact lw_op289 E d hd hL y3 hy0 (by omega) hnext a b hv hg0 hg1 hg2 hg3 hg4
            ·
              refine jt_ite (fun c137_ => ?_) (fun c137_ => ?_)
              ·
                exact lw_op312 E d hd hL y3 hy0 (by omega) hnext a b hv hg0 hg1 hg2 hg3 hg4
              ·
                refine jt_ite (fun c138_ => ?_) (fun c138_ => ?_)
                ·
                  exact lw_op375 E d hd hL y3 hy0 (by omega) hnext a b hv hg0 hg1 hg2 hg3 hg4
                ·
                  refine jt_ite (fun c139_ => ?_) (fun c139_ => ?_)
                  ·
                    exact lw_op398 E d hd hL y3 hy0 (by omega) hnext a b hv hg0 hg1 hg2 hg3 hg4
                  ·
                    refine jt_ite (fun c140_ => ?_) (fun c140_ => ?_)
                    ·
                      exact lw_op421 E d hd hL y3 hy0 (by omega) hnext a b hv hg0 hg1 hg2 hg3 hg4
                    ·
                      refine jt_ite (fun c141_ => ?_) (fun c141_ => ?_)
                      ·
                        exact lw_op454 E d hd hL y3 hy0 (by omega) hnext a b hv hg0 hg1 hg2 hg3 hg4
                      ·
                        refine jt_ite (fun c142_ => ?_) (fun c142_ => ?_)
                        ·
                          exact lw_op467 E d hd hL y3 hy0 (by omega) hnext a b hv hg0 hg1 hg2 hg3 hg4
                        ·
                          refine jt_ite (fun c143_ => ?_) (fun c143_ => ?_)
                          ·
                            exact lw_op490 E d hd hL y3 hy0 (by omega) hnext a b hv hg0 hg1 hg2 hg3 hg4
                          ·
                            refine jt_ite (fun c144_ => ?_) (fun c144_ => ?_)
                            ·
                              exact lw_op523 E d hd hL y3 hy0 (by omega) hnext a b hv hg0 hg1 hg2 hg3 hg4
                            ·
                              refine jt_ite (fun c145_ => ?_) (fun c145_ => ?_)
                              ·
                                exact lw_op546 E d hd hL y3 hy0 (by omega) hnext a b hv hg0 hg1 hg2 hg3 hg4
                              ·
                                refine jt_ite (fun c146_ => ?_) (fun c146_ => ?_)
                                ·
                                  exact lw_op559 E d hd hL y3 hy0 (by omega) hnext a b hv hg0 hg1 hg2 hg3 hg4
                                ·
                                  refine jt_ite (fun c147_ => ?_) (fun c147_ => ?_)
                                  ·
                                    exact lw_op592 E d hd hL y3 hy0 (by omega) hnext a b hv hg0 hg1 hg2 hg3 hg4
                                  ·
                                    refine jt_ite (fun c148_ => ?_) (fun c148_ => ?_)
                                    ·
                                      exact lw_op615 E d hd hL y3 hy0 (by omega) hnext a b hv hg0 hg1 hg2 hg3 hg4
                                    ·
                                      refine jt_ite (fun c149_ => ?_) (fun c149_ => ?_)
                                      ·
                                        exact lw_op648 E d hd hL y3 hy0 (by omega) hnext a b hv hg0 hg1 hg2 hg3 hg4
                                      ·
                                        refine jt_ite (fun c150_ => ?_) (fun c150_ => ?_)
                                        ·
                                          exact lw_op691 E d hd hL y3 hy0 (by omega) hnext a b hv hg0 hg1 hg2 hg3 hg4
                                        ·
                                          refine jt_ite (fun c151_ => ?_) (fun c151_ => ?_)
                                          ·
                                            exact lw_op724 E d hd hL y3 hy0 (by omega) hnext a b hv hg0 hg1 hg2 hg3 hg4
                                          ·
                                            refine jt_ite (fun c152_ => ?_) (fun c152_ => ?_)
                                            ·
                                              exact lw_op747 E d hd hL y3 hy0 (by omega) hnext a b hv hg0 hg1 hg2 hg3 hg4
                                            ·
                                              refine jt_ite (fun c153_ => ?_) (fun c153_ => ?_)
                                              ·
                                                exact lw_op790 E d hd hL y3 hy0 (by omega) hnext a b hv hg0 hg1 hg2 hg3 hg4
                                              ·
                                                refine jt_ite (fun c154_ => ?_) (fun c154_ => ?_)
                                                ·
                                                  exact lw_op833 E d hd hL y3 hy0 (by omega) hnext a b hv hg0 hg1 hg2 hg3 hg4
                                                ·
                                                  refine jt_ite (fun c155_ => ?_) (fun c155_ => ?_)
                                                  ·
                                                    exact lw_op856 E d hd hL y3 hy0 (by omega) hnext a b hv hg0 hg1 hg2 hg3 hg4
                                                  ·
                                                    refine jt_ite (fun c156_ => ?_) (fun c156_ => ?_)
                                                    ·
                                                      exact lw_op869 E d hd hL y3 hy0 (by omega) hnext a b hv hg0 hg1 hg2 hg3 hg4
                                                    ·
                                                      refine jt_ite (fun c157_ => ?_) (fun c157_ => ?_)
                                                      ·
                                                        exact lw_op902 E d hd hL y3 hy0 (by omega) hnext a b hv hg0 hg1 hg2 hg3 hg4
                                                      ·
                                                        refine jt_ite (fun c158_ => ?_) (fun c158_ => ?_)
                                                        ·
                                                          exact lw_op925 E d hd hL y3 hy0 (by omega) hnext a b hv hg0 hg1 hg2 hg3 hg4
                                                        ·
                                                          refine jt_ite (fun c159_ => ?_) (fun c159_ => ?_)
                                                          ·
                                                            exact lw_op958 E d hd hL y3 hy0 (by omega) hnext a b hv hg0 hg1 hg2 hg3 hg4
                                                          ·
                                                            refine jt_ite (fun c160_ => ?_) (fun c160_ => ?_)
                                                            ·
                                                              exact lw_op991 E d hd hL y3 hy0 (by omega) hnext a b hv hg0 hg1 hg2 hg3 hg4
                                                            ·
                                                              refine jt_ite (fun c161_ => ?_) (fun c161_ => ?_)
                                                              ·
                                                                exact lw_op1014 E d hd hL y3 hy0 (by omega) hnext a b hv hg0 hg1 hg2 hg3 hg4
                                                              ·
                                                                refine jt_ite (fun c162_ => ?_) (fun c162_ => ?_)
                                                                ·
                                                                  exact lw_op1067 E d hd hL y3 hy0 (by omega) hnext a b hv hg0 hg1 hg2 hg3 hg4
                                                                ·
                                                                  refine jt_ite (fun c163_ => ?_) (fun c163_ => ?_)
                                                                  ·
                                                                    exact lw_op1110 E d hd hL y3 hy0 (by omega) hnext a b hv hg0 hg1 hg2 hg3 hg4
                                                                  ·
                                                                    refine jt_ite (fun c164_ => ?_) (fun c164_ => ?_)
                                                                    ·
                                                                      exact lw_op1143 E d hd hL y3 hy0 (by omega) hnext a b hv hg0 hg1 hg2 hg3 hg4
                                                                    ·
                                                                      refine jt_ite (fun c165_ => ?_) (fun c165_ => ?_)
                                                                      ·
                                                                        exact lw_op1166 E d hd hL y3 hy0 (by omega) hnext a b hv hg0 hg1 hg2 hg3 hg4
                                                                      ·
                                                                        exact absurd (by omega : False) id
